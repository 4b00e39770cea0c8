/-! Methods as functions: printed by wip/whole/gen_fn.py. -/
theorem mx_159 : mi_mx tb_P 159 = 1 := rfl
noncomputable def fn_Mo_pass_38 (S : wd_S) : Option wd_S :=
  some S
set_option maxRecDepth 100000 in
theorem sn_Mo_pass_38 {L : Nat} {xs : Nat → Int32} {S : wd_S} {S' : wd_S} (h : fn_Mo_pass_38  S = some S') : go_r tb_P L xs 4 159 38 [] [] (wd_k S) (.inl none, wd_k S') := by
  unfold fn_Mo_pass_38 at h
  cases h
  exact bk_t tb_c_159_0 rfl rfl
noncomputable def fn_Mo_pass_27 (S : wd_S) : Option wd_S :=
  (if (S.1 135 9) = 0 then
    (wd_d (fn_Mo_next  S) fun S3 =>
    fn_Mo_pass_38  S3)
  else
    fn_Mo_pass_38  S)
set_option maxRecDepth 100000 in
theorem sn_Mo_pass_27 {L : Nat} {xs : Nat → Int32} {S : wd_S} {S' : wd_S} (h : fn_Mo_pass_27  S = some S') : go_r tb_P L xs 4 159 27 [(0, .ref 135)] [] (wd_k S) (.inl none, wd_k S') := by
  unfold fn_Mo_pass_27 at h
  refine bk_b (q := (28, [(0, .ref 135)], [.ref 135])) tb_c_159_0 mx_159 1 rfl ?_
  refine bk_gi tb_c_159_0 rfl rfl (ci := 11) (k := 9) rfl rfl rfl ?_
  by_cases g2 : (S.1 135 9) = 0
  · rw [if_pos g2] at h
    refine bk_zf tb_c_159_0 rfl (pc' := 34) rfl (t := 38) rfl (cm_ne_f g2) ?_
    refine bk_b (q := (35, [(0, .ref 135)], [.ref 135])) tb_c_159_0 mx_159 1 rfl ?_
    obtain ⟨S3, c5, h⟩ := wd_dx h
    refine bk_kv tb_c_159_0 rfl rfl rfl rfl rfl (ci := 11) rfl rfl (ev_up (Nat.le_of_ble_eq_true rfl) (sn_Mo_next c5)) ?_
    exact go_lv ls_nil (sn_Mo_pass_38 h)
  · rw [if_neg g2] at h
    refine bk_zt tb_c_159_0 rfl (pc' := 38) rfl (cm_ne_t g2) ?_
    exact go_lv ls_nil (sn_Mo_pass_38 h)
/-- SpecialiserModel.pass()V -/
noncomputable def fn_Mo_pass (S : wd_S) : Option wd_S :=
  (if (S.1 135 9) = 0 then
    (if (1500 : Int32) < (S.1 135 6) then
      (wd_d (fn_Mo_stop (6 : Int32) (S.1 135 5) S) fun S7 =>
      fn_Mo_pass_27  S7)
    else
      fn_Mo_pass_27  S)
  else
    fn_Mo_pass_27  S)
set_option maxRecDepth 100000 in
theorem sn_Mo_pass {L : Nat} {xs : Nat → Int32} {S : wd_S} {S' : wd_S} (h : fn_Mo_pass  S = some S') : ev_r tb_P L xs (4 + 1) 159 [.ref 135] (wd_k S) (.inl none, wd_k S') := by
  unfold fn_Mo_pass at h
  refine ev_of (Nat.le_of_ble_eq_true rfl) ?_
  show go_r tb_P L xs 4 159 0 [(0, .ref 135)] [] (wd_k S) (.inl none, wd_k S')
  refine bk_b (q := (1, [(0, .ref 135)], [.ref 135])) tb_c_159_0 mx_159 1 rfl ?_
  refine bk_gi tb_c_159_0 rfl rfl (ci := 11) (k := 9) rfl rfl rfl ?_
  by_cases g1 : (S.1 135 9) = 0
  · rw [if_pos g1] at h
    refine bk_zf tb_c_159_0 rfl (pc' := 7) rfl (t := 27) rfl (cm_ne_f g1) ?_
    refine bk_b (q := (8, [(0, .ref 135)], [.ref 135])) tb_c_159_0 mx_159 1 rfl ?_
    refine bk_gi tb_c_159_0 rfl rfl (ci := 11) (k := 6) rfl rfl rfl ?_
    refine bk_b (q := (14, [(0, .ref 135)], [.int (1500 : Int32), .int (S.1 135 6)])) tb_c_159_0 mx_159 1 rfl ?_
    by_cases g6 : (1500 : Int32) < (S.1 135 6)
    · rw [if_pos g6] at h
      refine bk_jf tb_c_159_0 rfl (pc' := 17) rfl (t := 27) rfl (cm_le_f g6) ?_
      refine bk_b (q := (21, [(0, .ref 135)], [.ref 135, .int (6 : Int32), .ref 135])) tb_c_159_0 mx_159 3 rfl ?_
      refine bk_gi tb_c_159_0 rfl rfl (ci := 11) (k := 5) rfl rfl rfl ?_
      obtain ⟨S7, c9, h⟩ := wd_dx h
      refine bk_kv tb_c_159_0 rfl rfl rfl rfl rfl (ci := 11) rfl rfl (ev_up (Nat.le_of_ble_eq_true rfl) (sn_Mo_stop c9)) ?_
      exact go_lv (ls_sc rfl rfl ls_nil) (sn_Mo_pass_27 h)
    · rw [if_neg g6] at h
      refine bk_jt tb_c_159_0 rfl (pc' := 27) rfl (cm_le_t g6) ?_
      exact go_lv (ls_sc rfl rfl ls_nil) (sn_Mo_pass_27 h)
  · rw [if_neg g1] at h
    refine bk_zt tb_c_159_0 rfl (pc' := 27) rfl (cm_ne_t g1) ?_
    exact go_lv (ls_sc rfl rfl ls_nil) (sn_Mo_pass_27 h)
theorem mx_160 : mi_mx tb_P 160 = 2 := rfl
noncomputable def fn_Mo_want_24 (S : wd_S) : Option wd_S :=
  (wd_d (fn_Mo_pass  S) fun S2 =>
  some S2)
set_option maxRecDepth 100000 in
theorem sn_Mo_want_24 {L : Nat} {xs : Nat → Int32} {S : wd_S} {S' : wd_S} (h : fn_Mo_want_24  S = some S') : go_r tb_P L xs 5 160 24 [(0, .ref 135)] [] (wd_k S) (.inl none, wd_k S') := by
  unfold fn_Mo_want_24 at h
  refine bk_b (q := (25, [(0, .ref 135)], [.ref 135])) tb_c_160_0 mx_160 1 rfl ?_
  obtain ⟨S2, c4, h⟩ := wd_dx h
  refine bk_kv tb_c_160_0 rfl rfl rfl rfl rfl (ci := 11) rfl rfl (ev_up (Nat.le_of_ble_eq_true rfl) (sn_Mo_pass c4)) ?_
  cases h
  exact bk_t tb_c_160_0 rfl rfl
/-- SpecialiserModel.want(I)V -/
noncomputable def fn_Mo_want (p1 : Int32) (S : wd_S) : Option wd_S :=
  (if (S.1 135 9) = 0 then
    (if (S.1 135 4) = p1 then
      fn_Mo_want_24  S
    else
      (wd_d (fn_Mo_stop (2 : Int32) (S.1 135 5) S) fun S6 =>
      fn_Mo_want_24  S6))
  else
    fn_Mo_want_24  S)
set_option maxRecDepth 100000 in
theorem sn_Mo_want {L : Nat} {xs : Nat → Int32} {p1 : Int32} {S : wd_S} {S' : wd_S} (h : fn_Mo_want p1 S = some S') : ev_r tb_P L xs (5 + 1) 160 [.ref 135, .int p1] (wd_k S) (.inl none, wd_k S') := by
  unfold fn_Mo_want at h
  refine ev_of (Nat.le_of_ble_eq_true rfl) ?_
  show go_r tb_P L xs 5 160 0 [(0, .ref 135), (1, .int p1)] [] (wd_k S) (.inl none, wd_k S')
  refine bk_b (q := (1, [(0, .ref 135), (1, .int p1)], [.ref 135])) tb_c_160_0 mx_160 1 rfl ?_
  refine bk_gi tb_c_160_0 rfl rfl (ci := 11) (k := 9) rfl rfl rfl ?_
  by_cases g1 : (S.1 135 9) = 0
  · rw [if_pos g1] at h
    refine bk_zf tb_c_160_0 rfl (pc' := 7) rfl (t := 24) rfl (cm_ne_f g1) ?_
    refine bk_b (q := (8, [(0, .ref 135), (1, .int p1)], [.ref 135])) tb_c_160_0 mx_160 1 rfl ?_
    refine bk_gi tb_c_160_0 rfl rfl (ci := 11) (k := 4) rfl rfl rfl ?_
    refine bk_b (q := (12, [(0, .ref 135), (1, .int p1)], [.int p1, .int (S.1 135 4)])) tb_c_160_0 mx_160 1 rfl ?_
    by_cases g5 : (S.1 135 4) = p1
    · rw [if_pos g5] at h
      refine bk_jt tb_c_160_0 rfl (pc' := 24) rfl (cm_eq_t g5) ?_
      exact go_lv (ls_sc rfl rfl ls_nil) (sn_Mo_want_24 h)
    · rw [if_neg g5] at h
      refine bk_jf tb_c_160_0 rfl (pc' := 15) rfl (t := 24) rfl (cm_eq_f g5) ?_
      refine bk_b (q := (18, [(0, .ref 135), (1, .int p1)], [.ref 135, .int (2 : Int32), .ref 135])) tb_c_160_0 mx_160 3 rfl ?_
      refine bk_gi tb_c_160_0 rfl rfl (ci := 11) (k := 5) rfl rfl rfl ?_
      obtain ⟨S6, c8, h⟩ := wd_dx h
      refine bk_kv tb_c_160_0 rfl rfl rfl rfl rfl (ci := 11) rfl rfl (ev_up (Nat.le_of_ble_eq_true rfl) (sn_Mo_stop c8)) ?_
      exact go_lv (ls_sc rfl rfl ls_nil) (sn_Mo_want_24 h)
  · rw [if_neg g1] at h
    refine bk_zt tb_c_160_0 rfl (pc' := 24) rfl (cm_ne_t g1) ?_
    exact go_lv (ls_sc rfl rfl ls_nil) (sn_Mo_want_24 h)
theorem mx_161 : mi_mx tb_P 161 = 3 := rfl
noncomputable def fn_Mo_name_136 (S : wd_S) : Option (Int32 × wd_S) :=
  (if (S.1 135 9) = 0 then
    (if (S.1 135 31) < 0 ∨ 96 ≤ (S.1 135 31).toNatClampNeg then none else
    (if (((16 : Int32) * (S.1 135 31)) + (S.1 139 (S.1 135 31).toNatClampNeg)) < 0 ∨ 1536 ≤ (((16 : Int32) * (S.1 135 31)) + (S.1 139 (S.1 135 31).toNatClampNeg)).toNatClampNeg then none else
    (wd_b (wd_l S 142 (((16 : Int32) * (S.1 135 31)) + (S.1 139 (S.1 135 31).toNatClampNeg)).toNatClampNeg (S.2.1 135 7)) fun S8 =>
    (if (S8.1 135 31) < 0 ∨ 96 ≤ (S8.1 135 31).toNatClampNeg then none else
    (if (S8.1 135 31) < 0 ∨ 96 ≤ (S8.1 135 31).toNatClampNeg then none else
    (wd_b (wd_i S8 139 (S8.1 135 31).toNatClampNeg ((S8.1 139 (S8.1 135 31).toNatClampNeg) + (1 : Int32))) fun S11 =>
    (wd_d (fn_Mo_pass  S11) fun S12 =>
    some (S.1 139 (S.1 135 31).toNatClampNeg, S12))))))))
  else
    some ((0 : Int32), S))
set_option maxRecDepth 100000 in
theorem sn_Mo_name_136 {L : Nat} {xs : Nat → Int32} {S : wd_S} {x : Int32} {S' : wd_S} (h : fn_Mo_name_136  S = some (x, S')) : go_r tb_P L xs 5 161 136 [(0, .ref 135)] [] (wd_k S) (.inl (some (.int x)), wd_k S') := by
  unfold fn_Mo_name_136 at h
  refine bk_b (q := (137, [(0, .ref 135)], [.ref 135])) tb_c_161_1 mx_161 1 rfl ?_
  refine bk_gi tb_c_161_1 rfl rfl (ci := 11) (k := 9) rfl rfl rfl ?_
  by_cases g5 : (S.1 135 9) = 0
  · rw [if_pos g5] at h
    refine bk_zt tb_c_161_1 rfl (pc' := 145) rfl (cm_eq_t g5) ?_
    refine bk_b (q := (146, [(0, .ref 135)], [.ref 135])) tb_c_161_1 mx_161 1 rfl ?_
    refine bk_gc tb_c_161_1 rfl rfl (ci := 11) (k := 13) rfl rfl rfl ?_
    refine bk_b (q := (150, [(0, .ref 135)], [.ref 135, .ref 139])) tb_c_161_1 mx_161 1 rfl ?_
    refine bk_gi tb_c_161_1 rfl rfl (ci := 11) (k := 31) rfl rfl rfl ?_
    by_cases g6 : (S.1 135 31) < 0 ∨ 96 ≤ (S.1 135 31).toNatClampNeg
    · rw [if_pos g6] at h; cases h
    · rw [if_neg g6] at h
      refine bk_a4 tb_c_161_1 rfl rfl rfl g6 ?_
      refine bk_b (q := (156, [(2, .int (S.1 139 (S.1 135 31).toNatClampNeg)), (0, .ref 135)], [.ref 135])) tb_c_161_2 mx_161 2 rfl ?_
      refine bk_gc tb_c_161_2 rfl rfl (ci := 11) (k := 16) rfl rfl rfl ?_
      refine bk_b (q := (162, [(2, .int (S.1 139 (S.1 135 31).toNatClampNeg)), (0, .ref 135)], [.ref 135, .int (16 : Int32), .ref 142])) tb_c_161_2 mx_161 2 rfl ?_
      refine bk_gi tb_c_161_2 rfl rfl (ci := 11) (k := 31) rfl rfl rfl ?_
      refine bk_b (q := (169, [(2, .int (S.1 139 (S.1 135 31).toNatClampNeg)), (0, .ref 135)], [.ref 135, .int (((16 : Int32) * (S.1 135 31)) + (S.1 139 (S.1 135 31).toNatClampNeg)), .ref 142])) tb_c_161_2 mx_161 4 rfl ?_
      refine bk_gl tb_c_161_2 rfl rfl (ci := 11) (k := 7) rfl rfl rfl ?_
      by_cases g7 : (((16 : Int32) * (S.1 135 31)) + (S.1 139 (S.1 135 31).toNatClampNeg)) < 0 ∨ 1536 ≤ (((16 : Int32) * (S.1 135 31)) + (S.1 139 (S.1 135 31).toNatClampNeg)).toNatClampNeg
      · rw [if_pos g7] at h; cases h
      · rw [if_neg g7] at h
        obtain ⟨S8, eS8, h⟩ := wd_bx h
        refine bk_s8 tb_c_161_2 rfl rfl rfl g7 ?_
        rw [eS8]
        refine bk_b (q := (174, [(2, .int (S.1 139 (S.1 135 31).toNatClampNeg)), (0, .ref 135)], [.ref 135])) tb_c_161_2 mx_161 1 rfl ?_
        refine bk_gc tb_c_161_2 rfl rfl (ci := 11) (k := 13) rfl rfl rfl ?_
        refine bk_b (q := (178, [(2, .int (S.1 139 (S.1 135 31).toNatClampNeg)), (0, .ref 135)], [.ref 135, .ref 139])) tb_c_161_2 mx_161 1 rfl ?_
        refine bk_gi tb_c_161_2 rfl rfl (ci := 11) (k := 31) rfl rfl rfl ?_
        refine bk_b (q := (182, [(2, .int (S.1 139 (S.1 135 31).toNatClampNeg)), (0, .ref 135)], [.int (S8.1 135 31), .ref 139, .int (S8.1 135 31), .ref 139])) tb_c_161_2 mx_161 1 rfl ?_
        by_cases g9 : (S8.1 135 31) < 0 ∨ 96 ≤ (S8.1 135 31).toNatClampNeg
        · rw [if_pos g9] at h; cases h
        · rw [if_neg g9] at h
          refine bk_a4 tb_c_161_2 rfl rfl rfl g9 ?_
          refine bk_b (q := (185, [(2, .int (S.1 139 (S.1 135 31).toNatClampNeg)), (0, .ref 135)], [.int ((S8.1 139 (S8.1 135 31).toNatClampNeg) + (1 : Int32)), .int (S8.1 135 31), .ref 139])) tb_c_161_2 mx_161 2 rfl ?_
          by_cases g10 : (S8.1 135 31) < 0 ∨ 96 ≤ (S8.1 135 31).toNatClampNeg
          · rw [if_pos g10] at h; cases h
          · rw [if_neg g10] at h
            obtain ⟨S11, eS11, h⟩ := wd_bx h
            refine bk_s4 tb_c_161_2 rfl rfl rfl g10 ?_
            rw [eS11]
            refine bk_b (q := (187, [(2, .int (S.1 139 (S.1 135 31).toNatClampNeg)), (0, .ref 135)], [.ref 135])) tb_c_161_2 mx_161 1 rfl ?_
            obtain ⟨S12, c14, h⟩ := wd_dx h
            refine bk_kv tb_c_161_2 rfl rfl rfl rfl rfl (ci := 11) rfl rfl (ev_up (Nat.le_of_ble_eq_true rfl) (sn_Mo_pass c14)) ?_
            refine bk_b (q := (191, [(2, .int (S.1 139 (S.1 135 31).toNatClampNeg)), (0, .ref 135)], [.int (S.1 139 (S.1 135 31).toNatClampNeg)])) tb_c_161_2 mx_161 1 rfl ?_
            cases h
            exact bk_t tb_c_161_2 rfl rfl
  · rw [if_neg g5] at h
    refine bk_zf tb_c_161_1 rfl (pc' := 143) rfl (t := 145) rfl (cm_eq_f g5) ?_
    refine bk_b (q := (144, [(0, .ref 135)], [.int (0 : Int32)])) tb_c_161_1 mx_161 1 rfl ?_
    cases h
    exact bk_t tb_c_161_1 rfl rfl
noncomputable def fn_Mo_name_126 (S : wd_S) : Option (Int32 × wd_S) :=
  (wd_d (fn_Mo_stop (6 : Int32) (S.1 135 5) S) fun S18 =>
  fn_Mo_name_136  S18)
set_option maxRecDepth 100000 in
theorem sn_Mo_name_126 {L : Nat} {xs : Nat → Int32} {S : wd_S} {x : Int32} {S' : wd_S} (h : fn_Mo_name_126  S = some (x, S')) : go_r tb_P L xs 5 161 126 [(0, .ref 135)] [] (wd_k S) (.inl (some (.int x)), wd_k S') := by
  unfold fn_Mo_name_126 at h
  refine bk_b (q := (130, [(0, .ref 135)], [.ref 135, .int (6 : Int32), .ref 135])) tb_c_161_1 mx_161 3 rfl ?_
  refine bk_gi tb_c_161_1 rfl rfl (ci := 11) (k := 5) rfl rfl rfl ?_
  obtain ⟨S18, c20, h⟩ := wd_dx h
  refine bk_kv tb_c_161_1 rfl rfl rfl rfl rfl (ci := 11) rfl rfl (ev_up (Nat.le_of_ble_eq_true rfl) (sn_Mo_stop c20)) ?_
  exact go_lv (ls_sc rfl rfl ls_nil) (sn_Mo_name_136 h)
noncomputable def fn_Mo_name_112 (S : wd_S) : Option (Int32 × wd_S) :=
  (if (S.1 135 31) < 0 ∨ 96 ≤ (S.1 135 31).toNatClampNeg then none else
  (if (S.1 139 (S.1 135 31).toNatClampNeg) = (16 : Int32) then
    fn_Mo_name_126  S
  else
    fn_Mo_name_136  S))
set_option maxRecDepth 100000 in
theorem sn_Mo_name_112 {L : Nat} {xs : Nat → Int32} {S : wd_S} {x : Int32} {S' : wd_S} (h : fn_Mo_name_112  S = some (x, S')) : go_r tb_P L xs 5 161 112 [(0, .ref 135)] [] (wd_k S) (.inl (some (.int x)), wd_k S') := by
  unfold fn_Mo_name_112 at h
  refine bk_b (q := (113, [(0, .ref 135)], [.ref 135])) tb_c_161_1 mx_161 1 rfl ?_
  refine bk_gc tb_c_161_1 rfl rfl (ci := 11) (k := 13) rfl rfl rfl ?_
  refine bk_b (q := (117, [(0, .ref 135)], [.ref 135, .ref 139])) tb_c_161_1 mx_161 1 rfl ?_
  refine bk_gi tb_c_161_1 rfl rfl (ci := 11) (k := 31) rfl rfl rfl ?_
  by_cases g16 : (S.1 135 31) < 0 ∨ 96 ≤ (S.1 135 31).toNatClampNeg
  · rw [if_pos g16] at h; cases h
  · rw [if_neg g16] at h
    refine bk_a4 tb_c_161_1 rfl rfl rfl g16 ?_
    refine bk_b (q := (123, [(0, .ref 135)], [.int (16 : Int32), .int (S.1 139 (S.1 135 31).toNatClampNeg)])) tb_c_161_1 mx_161 1 rfl ?_
    by_cases g17 : (S.1 139 (S.1 135 31).toNatClampNeg) = (16 : Int32)
    · rw [if_pos g17] at h
      refine bk_jf tb_c_161_1 rfl (pc' := 126) rfl (t := 136) rfl (cm_ne_f g17) ?_
      exact go_lv (ls_sc rfl rfl ls_nil) (sn_Mo_name_126 h)
    · rw [if_neg g17] at h
      refine bk_jt tb_c_161_1 rfl (pc' := 136) rfl (cm_ne_t g17) ?_
      exact go_lv (ls_sc rfl rfl ls_nil) (sn_Mo_name_136 h)
noncomputable def fn_Mo_name_88 (l1 : Int32) (S : wd_S) : Option (Int32 × wd_S) :=
  (if (S.1 135 9) = 0 then
    (if l1 = 0 then
      fn_Mo_name_112  S
    else
      (if (S.1 135 31) < 0 ∨ 96 ≤ (S.1 135 31).toNatClampNeg then none else
      (if (S.1 138 (S.1 135 31).toNatClampNeg) = (4 : Int32) then
        fn_Mo_name_126  S
      else
        fn_Mo_name_112  S)))
  else
    fn_Mo_name_136  S)
set_option maxRecDepth 100000 in
theorem sn_Mo_name_88 {L : Nat} {xs : Nat → Int32} {l1 : Int32} {S : wd_S} {x : Int32} {S' : wd_S} (h : fn_Mo_name_88 l1 S = some (x, S')) : go_r tb_P L xs 5 161 88 [(0, .ref 135), (1, .int l1)] [] (wd_k S) (.inl (some (.int x)), wd_k S') := by
  unfold fn_Mo_name_88 at h
  refine bk_b (q := (89, [(0, .ref 135), (1, .int l1)], [.ref 135])) tb_c_161_1 mx_161 1 rfl ?_
  refine bk_gi tb_c_161_1 rfl rfl (ci := 11) (k := 9) rfl rfl rfl ?_
  by_cases g4 : (S.1 135 9) = 0
  · rw [if_pos g4] at h
    refine bk_zf tb_c_161_1 rfl (pc' := 95) rfl (t := 136) rfl (cm_ne_f g4) ?_
    refine bk_b (q := (96, [(0, .ref 135), (1, .int l1)], [.int l1])) tb_c_161_1 mx_161 1 rfl ?_
    by_cases g15 : l1 = 0
    · rw [if_pos g15] at h
      refine bk_zt tb_c_161_1 rfl (pc' := 112) rfl (cm_eq_t g15) ?_
      exact go_lv (ls_sc rfl rfl ls_nil) (sn_Mo_name_112 h)
    · rw [if_neg g15] at h
      refine bk_zf tb_c_161_1 rfl (pc' := 99) rfl (t := 112) rfl (cm_eq_f g15) ?_
      refine bk_b (q := (100, [(0, .ref 135), (1, .int l1)], [.ref 135])) tb_c_161_1 mx_161 1 rfl ?_
      refine bk_gc tb_c_161_1 rfl rfl (ci := 11) (k := 12) rfl rfl rfl ?_
      refine bk_b (q := (104, [(0, .ref 135), (1, .int l1)], [.ref 135, .ref 138])) tb_c_161_1 mx_161 1 rfl ?_
      refine bk_gi tb_c_161_1 rfl rfl (ci := 11) (k := 31) rfl rfl rfl ?_
      by_cases g21 : (S.1 135 31) < 0 ∨ 96 ≤ (S.1 135 31).toNatClampNeg
      · rw [if_pos g21] at h; cases h
      · rw [if_neg g21] at h
        refine bk_a4 tb_c_161_1 rfl rfl rfl g21 ?_
        refine bk_b (q := (109, [(0, .ref 135), (1, .int l1)], [.int (4 : Int32), .int (S.1 138 (S.1 135 31).toNatClampNeg)])) tb_c_161_1 mx_161 1 rfl ?_
        by_cases g22 : (S.1 138 (S.1 135 31).toNatClampNeg) = (4 : Int32)
        · rw [if_pos g22] at h
          refine bk_jt tb_c_161_1 rfl (pc' := 126) rfl (cm_eq_t g22) ?_
          exact go_lv (ls_sc rfl rfl ls_nil) (sn_Mo_name_126 h)
        · rw [if_neg g22] at h
          refine bk_jf tb_c_161_1 rfl (pc' := 112) rfl (t := 126) rfl (cm_eq_f g22) ?_
          exact go_lv (ls_sc rfl rfl ls_nil) (sn_Mo_name_112 h)
  · rw [if_neg g4] at h
    refine bk_zt tb_c_161_1 rfl (pc' := 136) rfl (cm_ne_t g4) ?_
    exact go_lv (ls_sc rfl rfl ls_nil) (sn_Mo_name_136 h)
noncomputable def fn_Mo_name_82 (kk27 : Int32 → Int32 → wd_S → Option (Int32 × wd_S)) (l1 : Int32) (l2 : Int32) (S : wd_S) : Option (Int32 × wd_S) :=
  kk27 l1 (l2 + (1 : Int32)) S
set_option maxRecDepth 100000 in
theorem sn_Mo_name_82 {L : Nat} {xs : Nat → Int32} {kk27 : Int32 → Int32 → wd_S → Option (Int32 × wd_S)} (hk27 : ∀ {l1 : Int32} {l2 : Int32} {S : wd_S} {x : Int32} {S' : wd_S}, kk27 l1 l2 S = some (x, S') → go_r tb_P L xs 5 161 27 [(0, .ref 135), (1, .int l1), (2, .int l2)] [] (wd_k S) (.inl (some (.int x)), wd_k S')) {l1 : Int32} {l2 : Int32} {S : wd_S} {x : Int32} {S' : wd_S} (h : fn_Mo_name_82 kk27 l1 l2 S = some (x, S')) : go_r tb_P L xs 5 161 82 [(0, .ref 135), (1, .int l1), (2, .int l2)] [] (wd_k S) (.inl (some (.int x)), wd_k S') := by
  unfold fn_Mo_name_82 at h
  refine bk_b (q := (27, [(2, .int (l2 + (1 : Int32))), (0, .ref 135), (1, .int l1)], [])) tb_c_161_1 mx_161 2 rfl ?_
  exact go_lv (ls_sc rfl rfl (ls_sc rfl rfl (ls_sc rfl rfl ls_nil))) (hk27 h)
noncomputable def fn_Mo_name_27 : Nat → Int32 → Int32 → wd_S → Option (Int32 × wd_S)
  | 0, _, _, _ => none
  | n + 1, l1, l2, S =>
    (if (S.1 135 31) < 0 ∨ 96 ≤ (S.1 135 31).toNatClampNeg then none else
    (if l2 < (S.1 138 (S.1 135 31).toNatClampNeg) then
      (if l1 = 0 then
        fn_Mo_name_88 l1 S
      else
        (if (S.1 135 9) = 0 then
          (if (((16 : Int32) * (S.1 135 31)) + l2) < 0 ∨ 1536 ≤ (((16 : Int32) * (S.1 135 31)) + l2).toNatClampNeg then none else
          (if (lg_cmp (S.2.1 142 (((16 : Int32) * (S.1 135 31)) + l2).toNatClampNeg) (S.2.1 135 7)) = 0 then
            (wd_d (fn_Mo_stop (3 : Int32) (S.1 135 5) S) fun S27 =>
            fn_Mo_name_82 (fn_Mo_name_27 n) l1 l2 S27)
          else
            fn_Mo_name_82 (fn_Mo_name_27 n) l1 l2 S))
        else
          fn_Mo_name_88 l1 S))
    else
      fn_Mo_name_88 l1 S))
set_option maxRecDepth 100000 in
theorem sn_Mo_name_27 {L : Nat} {xs : Nat → Int32} : ∀ (n : Nat) {l1 : Int32} {l2 : Int32} {S : wd_S} {x : Int32} {S' : wd_S}, fn_Mo_name_27 n l1 l2 S = some (x, S') → go_r tb_P L xs 5 161 27 [(0, .ref 135), (1, .int l1), (2, .int l2)] [] (wd_k S) (.inl (some (.int x)), wd_k S') := by
  intro n
  induction n with
  | zero => intro l1 l2 S x S'  h; cases h
  | succ n ih =>
    intro l1 l2 S x S'  h
    rw [fn_Mo_name_27] at h
    refine bk_b (q := (29, [(0, .ref 135), (1, .int l1), (2, .int l2)], [.ref 135, .int l2])) tb_c_161_0 mx_161 2 rfl ?_
    refine bk_gc tb_c_161_0 rfl rfl (ci := 11) (k := 12) rfl rfl rfl ?_
    refine bk_b (q := (33, [(0, .ref 135), (1, .int l1), (2, .int l2)], [.ref 135, .ref 138, .int l2])) tb_c_161_0 mx_161 1 rfl ?_
    refine bk_gi tb_c_161_0 rfl rfl (ci := 11) (k := 31) rfl rfl rfl ?_
    by_cases g2 : (S.1 135 31) < 0 ∨ 96 ≤ (S.1 135 31).toNatClampNeg
    · rw [if_pos g2] at h; cases h
    · rw [if_neg g2] at h
      refine bk_a4 tb_c_161_0 rfl rfl rfl g2 ?_
      by_cases g3 : l2 < (S.1 138 (S.1 135 31).toNatClampNeg)
      · rw [if_pos g3] at h
        refine bk_jf tb_c_161_0 rfl (pc' := 40) rfl (t := 88) rfl (cm_ge_f g3) ?_
        refine bk_b (q := (41, [(0, .ref 135), (1, .int l1), (2, .int l2)], [.int l1])) tb_c_161_0 mx_161 1 rfl ?_
        by_cases g23 : l1 = 0
        · rw [if_pos g23] at h
          refine bk_zt tb_c_161_0 rfl (pc' := 88) rfl (cm_eq_t g23) ?_
          exact go_lv (ls_sc rfl rfl (ls_sc rfl rfl ls_nil)) (sn_Mo_name_88 h)
        · rw [if_neg g23] at h
          refine bk_zf tb_c_161_0 rfl (pc' := 44) rfl (t := 88) rfl (cm_eq_f g23) ?_
          refine bk_b (q := (45, [(0, .ref 135), (1, .int l1), (2, .int l2)], [.ref 135])) tb_c_161_0 mx_161 1 rfl ?_
          refine bk_gi tb_c_161_0 rfl rfl (ci := 11) (k := 9) rfl rfl rfl ?_
          by_cases g24 : (S.1 135 9) = 0
          · rw [if_pos g24] at h
            refine bk_zf tb_c_161_0 rfl (pc' := 51) rfl (t := 88) rfl (cm_ne_f g24) ?_
            refine bk_b (q := (52, [(0, .ref 135), (1, .int l1), (2, .int l2)], [.ref 135])) tb_c_161_0 mx_161 1 rfl ?_
            refine bk_gc tb_c_161_0 rfl rfl (ci := 11) (k := 16) rfl rfl rfl ?_
            refine bk_b (q := (58, [(0, .ref 135), (1, .int l1), (2, .int l2)], [.ref 135, .int (16 : Int32), .ref 142])) tb_c_161_0 mx_161 2 rfl ?_
            refine bk_gi tb_c_161_0 rfl rfl (ci := 11) (k := 31) rfl rfl rfl ?_
            refine bk_b (q := (64, [(0, .ref 135), (1, .int l1), (2, .int l2)], [.int (((16 : Int32) * (S.1 135 31)) + l2), .ref 142])) tb_c_161_0 mx_161 3 rfl ?_
            by_cases g25 : (((16 : Int32) * (S.1 135 31)) + l2) < 0 ∨ 1536 ≤ (((16 : Int32) * (S.1 135 31)) + l2).toNatClampNeg
            · rw [if_pos g25] at h; cases h
            · rw [if_neg g25] at h
              refine bk_a8 tb_c_161_0 rfl rfl rfl g25 ?_
              refine bk_b (q := (66, [(0, .ref 135), (1, .int l1), (2, .int l2)], [.ref 135, .long (S.2.1 142 (((16 : Int32) * (S.1 135 31)) + l2).toNatClampNeg)])) tb_c_161_0 mx_161 1 rfl ?_
              refine bk_gl tb_c_161_0 rfl rfl (ci := 11) (k := 7) rfl rfl rfl ?_
              refine bk_b (q := (70, [(0, .ref 135), (1, .int l1), (2, .int l2)], [.int (lg_cmp (S.2.1 142 (((16 : Int32) * (S.1 135 31)) + l2).toNatClampNeg) (S.2.1 135 7))])) tb_c_161_0 mx_161 1 rfl ?_
              by_cases g26 : (lg_cmp (S.2.1 142 (((16 : Int32) * (S.1 135 31)) + l2).toNatClampNeg) (S.2.1 135 7)) = 0
              · rw [if_pos g26] at h
                refine bk_zf tb_c_161_0 rfl (pc' := 73) rfl (t := 82) rfl (cm_ne_f g26) ?_
                refine bk_b (q := (74, [(0, .ref 135), (1, .int l1), (2, .int l2)], [.ref 135])) tb_c_161_0 mx_161 1 rfl ?_
                refine bk_b (q := (76, [(0, .ref 135), (1, .int l1), (2, .int l2)], [.ref 135, .int (3 : Int32), .ref 135])) tb_c_161_1 mx_161 2 rfl ?_
                refine bk_gi tb_c_161_1 rfl rfl (ci := 11) (k := 5) rfl rfl rfl ?_
                obtain ⟨S27, c29, h⟩ := wd_dx h
                refine bk_kv tb_c_161_1 rfl rfl rfl rfl rfl (ci := 11) rfl rfl (ev_up (Nat.le_of_ble_eq_true rfl) (sn_Mo_stop c29)) ?_
                exact go_lv (ls_sc rfl rfl (ls_sc rfl rfl (ls_sc rfl rfl ls_nil))) (sn_Mo_name_82 ih h)
              · rw [if_neg g26] at h
                refine bk_zt tb_c_161_0 rfl (pc' := 82) rfl (cm_ne_t g26) ?_
                exact go_lv (ls_sc rfl rfl (ls_sc rfl rfl (ls_sc rfl rfl ls_nil))) (sn_Mo_name_82 ih h)
          · rw [if_neg g24] at h
            refine bk_zt tb_c_161_0 rfl (pc' := 88) rfl (cm_ne_t g24) ?_
            exact go_lv (ls_sc rfl rfl (ls_sc rfl rfl ls_nil)) (sn_Mo_name_88 h)
      · rw [if_neg g3] at h
        refine bk_jt tb_c_161_0 rfl (pc' := 88) rfl (cm_ge_t g3) ?_
        exact go_lv (ls_sc rfl rfl (ls_sc rfl rfl ls_nil)) (sn_Mo_name_88 h)
noncomputable def fn_Mo_name_25 (l1 : Int32) (S : wd_S) : Option (Int32 × wd_S) :=
  fn_Mo_name_27 wd_F l1 (0 : Int32) S
set_option maxRecDepth 100000 in
theorem sn_Mo_name_25 {L : Nat} {xs : Nat → Int32} {l1 : Int32} {S : wd_S} {x : Int32} {S' : wd_S} (h : fn_Mo_name_25 l1 S = some (x, S')) : go_r tb_P L xs 5 161 25 [(0, .ref 135), (1, .int l1)] [] (wd_k S) (.inl (some (.int x)), wd_k S') := by
  unfold fn_Mo_name_25 at h
  refine bk_b (q := (27, [(2, .int (0 : Int32)), (0, .ref 135), (1, .int l1)], [])) tb_c_161_0 mx_161 2 rfl ?_
  exact go_lv (ls_sc rfl rfl (ls_sc rfl rfl (ls_sc rfl rfl ls_nil))) (sn_Mo_name_27 wd_F h)
/-- SpecialiserModel.name(Z)I -/
noncomputable def fn_Mo_name (p1 : Int32) (S : wd_S) : Option (Int32 × wd_S) :=
  (if (S.1 135 9) = 0 then
    (if (S.1 135 4) = (10 : Int32) then
      fn_Mo_name_25 p1 S
    else
      (wd_d (fn_Mo_stop (2 : Int32) (S.1 135 5) S) fun S31 =>
      fn_Mo_name_25 p1 S31))
  else
    fn_Mo_name_25 p1 S)
set_option maxRecDepth 100000 in
theorem sn_Mo_name {L : Nat} {xs : Nat → Int32} {p1 : Int32} {S : wd_S} {x : Int32} {S' : wd_S} (h : fn_Mo_name p1 S = some (x, S')) : ev_r tb_P L xs (5 + 1) 161 [.ref 135, .int p1] (wd_k S) (.inl (some (.int x)), wd_k S') := by
  unfold fn_Mo_name at h
  refine ev_of (Nat.le_of_ble_eq_true rfl) ?_
  show go_r tb_P L xs 5 161 0 [(0, .ref 135), (1, .int p1)] [] (wd_k S) (.inl (some (.int x)), wd_k S')
  refine bk_b (q := (1, [(0, .ref 135), (1, .int p1)], [.ref 135])) tb_c_161_0 mx_161 1 rfl ?_
  refine bk_gi tb_c_161_0 rfl rfl (ci := 11) (k := 9) rfl rfl rfl ?_
  by_cases g1 : (S.1 135 9) = 0
  · rw [if_pos g1] at h
    refine bk_zf tb_c_161_0 rfl (pc' := 7) rfl (t := 25) rfl (cm_ne_f g1) ?_
    refine bk_b (q := (8, [(0, .ref 135), (1, .int p1)], [.ref 135])) tb_c_161_0 mx_161 1 rfl ?_
    refine bk_gi tb_c_161_0 rfl rfl (ci := 11) (k := 4) rfl rfl rfl ?_
    refine bk_b (q := (13, [(0, .ref 135), (1, .int p1)], [.int (10 : Int32), .int (S.1 135 4)])) tb_c_161_0 mx_161 1 rfl ?_
    by_cases g30 : (S.1 135 4) = (10 : Int32)
    · rw [if_pos g30] at h
      refine bk_jt tb_c_161_0 rfl (pc' := 25) rfl (cm_eq_t g30) ?_
      exact go_lv (ls_sc rfl rfl (ls_sc rfl rfl ls_nil)) (sn_Mo_name_25 h)
    · rw [if_neg g30] at h
      refine bk_jf tb_c_161_0 rfl (pc' := 16) rfl (t := 25) rfl (cm_eq_f g30) ?_
      refine bk_b (q := (19, [(0, .ref 135), (1, .int p1)], [.ref 135, .int (2 : Int32), .ref 135])) tb_c_161_0 mx_161 3 rfl ?_
      refine bk_gi tb_c_161_0 rfl rfl (ci := 11) (k := 5) rfl rfl rfl ?_
      obtain ⟨S31, c33, h⟩ := wd_dx h
      refine bk_kv tb_c_161_0 rfl rfl rfl rfl rfl (ci := 11) rfl rfl (ev_up (Nat.le_of_ble_eq_true rfl) (sn_Mo_stop c33)) ?_
      exact go_lv (ls_sc rfl rfl (ls_sc rfl rfl ls_nil)) (sn_Mo_name_25 h)
  · rw [if_neg g1] at h
    refine bk_zt tb_c_161_0 rfl (pc' := 25) rfl (cm_ne_t g1) ?_
    exact go_lv (ls_sc rfl rfl (ls_sc rfl rfl ls_nil)) (sn_Mo_name_25 h)
theorem mx_163 : mi_mx tb_P 163 = 3 := rfl
noncomputable def fn_Mo_push_40 (S : wd_S) : Option wd_S :=
  some S
set_option maxRecDepth 100000 in
theorem sn_Mo_push_40 {L : Nat} {xs : Nat → Int32} {S : wd_S} {S' : wd_S} (h : fn_Mo_push_40  S = some S') : go_r tb_P L xs 0 163 40 [] [] (wd_k S) (.inl none, wd_k S') := by
  unfold fn_Mo_push_40 at h
  cases h
  exact bk_t tb_c_163_0 rfl rfl
/-- SpecialiserModel.push(II)V -/
noncomputable def fn_Mo_push (p1 : Int32) (p2 : Int32) (S : wd_S) : Option wd_S :=
  (if (S.1 135 35) < (4000 : Int32) then
    (if (S.1 135 35) < 0 ∨ 4000 ≤ (S.1 135 35).toNatClampNeg then none else
    (wd_b (wd_i S 152 (S.1 135 35).toNatClampNeg p1) fun S3 =>
    (if (S3.1 135 35) < 0 ∨ 4000 ≤ (S3.1 135 35).toNatClampNeg then none else
    (wd_b (wd_i S3 153 (S3.1 135 35).toNatClampNeg p2) fun S5 =>
    (wd_b (wd_i S5 135 35 ((S5.1 135 35) + (1 : Int32))) fun S6 =>
    fn_Mo_push_40  S6)))))
  else
    fn_Mo_push_40  S)
set_option maxRecDepth 100000 in
theorem sn_Mo_push {L : Nat} {xs : Nat → Int32} {p1 : Int32} {p2 : Int32} {S : wd_S} {S' : wd_S} (h : fn_Mo_push p1 p2 S = some S') : ev_r tb_P L xs (0 + 1) 163 [.ref 135, .int p1, .int p2] (wd_k S) (.inl none, wd_k S') := by
  unfold fn_Mo_push at h
  refine ev_of (Nat.le_of_ble_eq_true rfl) ?_
  show go_r tb_P L xs 0 163 0 [(0, .ref 135), (1, .int p1), (2, .int p2)] [] (wd_k S) (.inl none, wd_k S')
  refine bk_b (q := (1, [(0, .ref 135), (1, .int p1), (2, .int p2)], [.ref 135])) tb_c_163_0 mx_163 1 rfl ?_
  refine bk_gi tb_c_163_0 rfl rfl (ci := 11) (k := 35) rfl rfl rfl ?_
  refine bk_b (q := (7, [(0, .ref 135), (1, .int p1), (2, .int p2)], [.int (4000 : Int32), .int (S.1 135 35)])) tb_c_163_0 mx_163 1 rfl ?_
  by_cases g1 : (S.1 135 35) < (4000 : Int32)
  · rw [if_pos g1] at h
    refine bk_jf tb_c_163_0 rfl (pc' := 10) rfl (t := 40) rfl (cm_ge_f g1) ?_
    refine bk_b (q := (11, [(0, .ref 135), (1, .int p1), (2, .int p2)], [.ref 135])) tb_c_163_0 mx_163 1 rfl ?_
    refine bk_gc tb_c_163_0 rfl rfl (ci := 11) (k := 32) rfl rfl rfl ?_
    refine bk_b (q := (15, [(0, .ref 135), (1, .int p1), (2, .int p2)], [.ref 135, .ref 152])) tb_c_163_0 mx_163 1 rfl ?_
    refine bk_gi tb_c_163_0 rfl rfl (ci := 11) (k := 35) rfl rfl rfl ?_
    refine bk_b (q := (19, [(0, .ref 135), (1, .int p1), (2, .int p2)], [.int p1, .int (S.1 135 35), .ref 152])) tb_c_163_0 mx_163 1 rfl ?_
    by_cases g2 : (S.1 135 35) < 0 ∨ 4000 ≤ (S.1 135 35).toNatClampNeg
    · rw [if_pos g2] at h; cases h
    · rw [if_neg g2] at h
      obtain ⟨S3, eS3, h⟩ := wd_bx h
      refine bk_s4 tb_c_163_0 rfl rfl rfl g2 ?_
      rw [eS3]
      refine bk_b (q := (21, [(0, .ref 135), (1, .int p1), (2, .int p2)], [.ref 135])) tb_c_163_0 mx_163 1 rfl ?_
      refine bk_gc tb_c_163_0 rfl rfl (ci := 11) (k := 33) rfl rfl rfl ?_
      refine bk_b (q := (25, [(0, .ref 135), (1, .int p1), (2, .int p2)], [.ref 135, .ref 153])) tb_c_163_0 mx_163 1 rfl ?_
      refine bk_gi tb_c_163_0 rfl rfl (ci := 11) (k := 35) rfl rfl rfl ?_
      refine bk_b (q := (29, [(0, .ref 135), (1, .int p1), (2, .int p2)], [.int p2, .int (S3.1 135 35), .ref 153])) tb_c_163_0 mx_163 1 rfl ?_
      by_cases g4 : (S3.1 135 35) < 0 ∨ 4000 ≤ (S3.1 135 35).toNatClampNeg
      · rw [if_pos g4] at h; cases h
      · rw [if_neg g4] at h
        obtain ⟨S5, eS5, h⟩ := wd_bx h
        refine bk_s4 tb_c_163_0 rfl rfl rfl g4 ?_
        rw [eS5]
        refine bk_b (q := (32, [(0, .ref 135), (1, .int p1), (2, .int p2)], [.ref 135, .ref 135])) tb_c_163_0 mx_163 2 rfl ?_
        refine bk_gi tb_c_163_0 rfl rfl (ci := 11) (k := 35) rfl rfl rfl ?_
        refine bk_b (q := (37, [(0, .ref 135), (1, .int p1), (2, .int p2)], [.int ((S5.1 135 35) + (1 : Int32)), .ref 135])) tb_c_163_0 mx_163 2 rfl ?_
        obtain ⟨S6, eS6, h⟩ := wd_bx h
        refine bk_pi tb_c_163_0 rfl rfl (ci := 11) (k := 35) rfl rfl rfl rfl ?_
        rw [eS6]
        exact go_lv ls_nil (sn_Mo_push_40 h)
  · rw [if_neg g1] at h
    refine bk_jt tb_c_163_0 rfl (pc' := 40) rfl (cm_ge_t g1) ?_
    exact go_lv ls_nil (sn_Mo_push_40 h)
theorem mx_165 : mi_mx tb_P 165 = 1 := rfl
noncomputable def fn_Mo_begins_57 (s0 : Int32) (S : wd_S) : Option (Int32 × wd_S) :=
  (if mi_fit .boolean (.int s0) = true then some (s0, S) else none)
set_option maxRecDepth 100000 in
theorem sn_Mo_begins_57 {L : Nat} {xs : Nat → Int32} {s0 : Int32} {S : wd_S} {x : Int32} {S' : wd_S} (h : fn_Mo_begins_57 s0 S = some (x, S')) : go_r tb_P L xs 0 165 57 [] [.int s0] (wd_k S) (.inl (some (.int x)), wd_k S') := by
  unfold fn_Mo_begins_57 at h
  by_cases g2 : mi_fit .boolean (.int s0) = true
  · rw [if_pos g2] at h
    cases h
    exact bk_t tb_c_165_0 rfl (if_pos g2)
  · rw [if_neg g2] at h; cases h
noncomputable def fn_Mo_begins_52 (S : wd_S) : Option (Int32 × wd_S) :=
  fn_Mo_begins_57 (1 : Int32) S
set_option maxRecDepth 100000 in
theorem sn_Mo_begins_52 {L : Nat} {xs : Nat → Int32} {S : wd_S} {x : Int32} {S' : wd_S} (h : fn_Mo_begins_52  S = some (x, S')) : go_r tb_P L xs 0 165 52 [] [] (wd_k S) (.inl (some (.int x)), wd_k S') := by
  unfold fn_Mo_begins_52 at h
  refine bk_b (q := (57, [], [.int (1 : Int32)])) tb_c_165_0 mx_165 2 rfl ?_
  exact go_lv ls_nil (sn_Mo_begins_57 h)
/-- SpecialiserModel.begins()Z -/
noncomputable def fn_Mo_begins (S : wd_S) : Option (Int32 × wd_S) :=
  (if (S.1 135 4) = (5 : Int32) then
    fn_Mo_begins_52  S
  else
    (if (S.1 135 4) = (2 : Int32) then
      fn_Mo_begins_52  S
    else
      (if (S.1 135 4) = (11 : Int32) then
        fn_Mo_begins_52  S
      else
        (if (S.1 135 4) = (20 : Int32) then
          fn_Mo_begins_52  S
        else
          (if (S.1 135 4) = (10 : Int32) then
            fn_Mo_begins_52  S
          else
            (if (S.1 135 4) = (14 : Int32) then
              fn_Mo_begins_52  S
            else
              fn_Mo_begins_57 (0 : Int32) S))))))
set_option maxRecDepth 100000 in
theorem sn_Mo_begins {L : Nat} {xs : Nat → Int32} {S : wd_S} {x : Int32} {S' : wd_S} (h : fn_Mo_begins  S = some (x, S')) : ev_r tb_P L xs (0 + 1) 165 [.ref 135] (wd_k S) (.inl (some (.int x)), wd_k S') := by
  unfold fn_Mo_begins at h
  refine ev_of (Nat.le_of_ble_eq_true rfl) ?_
  show go_r tb_P L xs 0 165 0 [(0, .ref 135)] [] (wd_k S) (.inl (some (.int x)), wd_k S')
  refine bk_b (q := (1, [(0, .ref 135)], [.ref 135])) tb_c_165_0 mx_165 1 rfl ?_
  refine bk_gi tb_c_165_0 rfl rfl (ci := 11) (k := 4) rfl rfl rfl ?_
  refine bk_b (q := (5, [(0, .ref 135)], [.int (5 : Int32), .int (S.1 135 4)])) tb_c_165_0 mx_165 1 rfl ?_
  by_cases g1 : (S.1 135 4) = (5 : Int32)
  · rw [if_pos g1] at h
    refine bk_jt tb_c_165_0 rfl (pc' := 52) rfl (cm_eq_t g1) ?_
    exact go_lv ls_nil (sn_Mo_begins_52 h)
  · rw [if_neg g1] at h
    refine bk_jf tb_c_165_0 rfl (pc' := 8) rfl (t := 52) rfl (cm_eq_f g1) ?_
    refine bk_b (q := (9, [(0, .ref 135)], [.ref 135])) tb_c_165_0 mx_165 1 rfl ?_
    refine bk_gi tb_c_165_0 rfl rfl (ci := 11) (k := 4) rfl rfl rfl ?_
    refine bk_b (q := (13, [(0, .ref 135)], [.int (2 : Int32), .int (S.1 135 4)])) tb_c_165_0 mx_165 1 rfl ?_
    by_cases g3 : (S.1 135 4) = (2 : Int32)
    · rw [if_pos g3] at h
      refine bk_jt tb_c_165_0 rfl (pc' := 52) rfl (cm_eq_t g3) ?_
      exact go_lv ls_nil (sn_Mo_begins_52 h)
    · rw [if_neg g3] at h
      refine bk_jf tb_c_165_0 rfl (pc' := 16) rfl (t := 52) rfl (cm_eq_f g3) ?_
      refine bk_b (q := (17, [(0, .ref 135)], [.ref 135])) tb_c_165_0 mx_165 1 rfl ?_
      refine bk_gi tb_c_165_0 rfl rfl (ci := 11) (k := 4) rfl rfl rfl ?_
      refine bk_b (q := (22, [(0, .ref 135)], [.int (11 : Int32), .int (S.1 135 4)])) tb_c_165_0 mx_165 1 rfl ?_
      by_cases g4 : (S.1 135 4) = (11 : Int32)
      · rw [if_pos g4] at h
        refine bk_jt tb_c_165_0 rfl (pc' := 52) rfl (cm_eq_t g4) ?_
        exact go_lv ls_nil (sn_Mo_begins_52 h)
      · rw [if_neg g4] at h
        refine bk_jf tb_c_165_0 rfl (pc' := 25) rfl (t := 52) rfl (cm_eq_f g4) ?_
        refine bk_b (q := (26, [(0, .ref 135)], [.ref 135])) tb_c_165_0 mx_165 1 rfl ?_
        refine bk_gi tb_c_165_0 rfl rfl (ci := 11) (k := 4) rfl rfl rfl ?_
        refine bk_b (q := (31, [(0, .ref 135)], [.int (20 : Int32), .int (S.1 135 4)])) tb_c_165_0 mx_165 1 rfl ?_
        by_cases g5 : (S.1 135 4) = (20 : Int32)
        · rw [if_pos g5] at h
          refine bk_jt tb_c_165_0 rfl (pc' := 52) rfl (cm_eq_t g5) ?_
          exact go_lv ls_nil (sn_Mo_begins_52 h)
        · rw [if_neg g5] at h
          refine bk_jf tb_c_165_0 rfl (pc' := 34) rfl (t := 52) rfl (cm_eq_f g5) ?_
          refine bk_b (q := (35, [(0, .ref 135)], [.ref 135])) tb_c_165_0 mx_165 1 rfl ?_
          refine bk_gi tb_c_165_0 rfl rfl (ci := 11) (k := 4) rfl rfl rfl ?_
          refine bk_b (q := (40, [(0, .ref 135)], [.int (10 : Int32), .int (S.1 135 4)])) tb_c_165_0 mx_165 1 rfl ?_
          by_cases g6 : (S.1 135 4) = (10 : Int32)
          · rw [if_pos g6] at h
            refine bk_jt tb_c_165_0 rfl (pc' := 52) rfl (cm_eq_t g6) ?_
            exact go_lv ls_nil (sn_Mo_begins_52 h)
          · rw [if_neg g6] at h
            refine bk_jf tb_c_165_0 rfl (pc' := 43) rfl (t := 52) rfl (cm_eq_f g6) ?_
            refine bk_b (q := (44, [(0, .ref 135)], [.ref 135])) tb_c_165_0 mx_165 1 rfl ?_
            refine bk_gi tb_c_165_0 rfl rfl (ci := 11) (k := 4) rfl rfl rfl ?_
            refine bk_b (q := (49, [(0, .ref 135)], [.int (14 : Int32), .int (S.1 135 4)])) tb_c_165_0 mx_165 1 rfl ?_
            by_cases g7 : (S.1 135 4) = (14 : Int32)
            · rw [if_pos g7] at h
              refine bk_jf tb_c_165_0 rfl (pc' := 52) rfl (t := 56) rfl (cm_ne_f g7) ?_
              exact go_lv ls_nil (sn_Mo_begins_52 h)
            · rw [if_neg g7] at h
              refine bk_jt tb_c_165_0 rfl (pc' := 56) rfl (cm_ne_t g7) ?_
              refine bk_b (q := (57, [(0, .ref 135)], [.int (0 : Int32)])) tb_c_165_0 mx_165 1 rfl ?_
              exact go_lv ls_nil (sn_Mo_begins_57 h)
theorem mx_166 : mi_mx tb_P 166 = 4 := rfl
noncomputable def fn_Mo_node_20 (l1 : Int32) (l2 : Int32) (s0 : Int32) (S : wd_S) : Option (Int32 × wd_S) :=
  (wd_b (wd_i S 135 27 (s0 + (1 : Int32))) fun S2 =>
  (if s0 < 0 ∨ 15010 ≤ s0.toNatClampNeg then none else
  (wd_b (wd_i S2 143 s0.toNatClampNeg l1) fun S4 =>
  (if s0 < 0 ∨ 15010 ≤ s0.toNatClampNeg then none else
  (wd_b (wd_i S4 147 s0.toNatClampNeg l2) fun S6 =>
  some (s0, S6))))))
set_option maxRecDepth 100000 in
theorem sn_Mo_node_20 {L : Nat} {xs : Nat → Int32} {l1 : Int32} {l2 : Int32} {s0 : Int32} {S : wd_S} {x : Int32} {S' : wd_S} (h : fn_Mo_node_20 l1 l2 s0 S = some (x, S')) : go_r tb_P L xs 0 166 20 [(0, .ref 135), (1, .int l1), (2, .int l2)] [.int s0] (wd_k S) (.inl (some (.int x)), wd_k S') := by
  unfold fn_Mo_node_20 at h
  refine bk_b (q := (25, [(3, .int s0), (0, .ref 135), (1, .int l1), (2, .int l2)], [.int (s0 + (1 : Int32)), .ref 135])) tb_c_166_0 mx_166 5 rfl ?_
  obtain ⟨S2, eS2, h⟩ := wd_bx h
  refine bk_pi tb_c_166_0 rfl rfl (ci := 11) (k := 27) rfl rfl rfl rfl ?_
  rw [eS2]
  refine bk_b (q := (29, [(3, .int s0), (0, .ref 135), (1, .int l1), (2, .int l2)], [.ref 135])) tb_c_166_0 mx_166 1 rfl ?_
  refine bk_gc tb_c_166_0 rfl rfl (ci := 11) (k := 17) rfl rfl rfl ?_
  refine bk_b (q := (34, [(3, .int s0), (0, .ref 135), (1, .int l1), (2, .int l2)], [.int l1, .int s0, .ref 143])) tb_c_166_0 mx_166 2 rfl ?_
  by_cases g3 : s0 < 0 ∨ 15010 ≤ s0.toNatClampNeg
  · rw [if_pos g3] at h; cases h
  · rw [if_neg g3] at h
    obtain ⟨S4, eS4, h⟩ := wd_bx h
    refine bk_s4 tb_c_166_0 rfl rfl rfl g3 ?_
    rw [eS4]
    refine bk_b (q := (36, [(3, .int s0), (0, .ref 135), (1, .int l1), (2, .int l2)], [.ref 135])) tb_c_166_0 mx_166 1 rfl ?_
    refine bk_gc tb_c_166_0 rfl rfl (ci := 11) (k := 21) rfl rfl rfl ?_
    refine bk_b (q := (41, [(3, .int s0), (0, .ref 135), (1, .int l1), (2, .int l2)], [.int l2, .int s0, .ref 147])) tb_c_166_0 mx_166 2 rfl ?_
    by_cases g5 : s0 < 0 ∨ 15010 ≤ s0.toNatClampNeg
    · rw [if_pos g5] at h; cases h
    · rw [if_neg g5] at h
      obtain ⟨S6, eS6, h⟩ := wd_bx h
      refine bk_s4 tb_c_166_0 rfl rfl rfl g5 ?_
      rw [eS6]
      refine bk_b (q := (43, [(3, .int s0), (0, .ref 135), (1, .int l1), (2, .int l2)], [.int s0])) tb_c_166_0 mx_166 1 rfl ?_
      cases h
      exact bk_t tb_c_166_0 rfl rfl
/-- SpecialiserModel.node(II)I -/
noncomputable def fn_Mo_node (p1 : Int32) (p2 : Int32) (S : wd_S) : Option (Int32 × wd_S) :=
  (if (S.1 135 27) < (3003 : Int32) then
    fn_Mo_node_20 p1 p2 (S.1 135 27) S
  else
    fn_Mo_node_20 p1 p2 (3003 : Int32) S)
set_option maxRecDepth 100000 in
theorem sn_Mo_node {L : Nat} {xs : Nat → Int32} {p1 : Int32} {p2 : Int32} {S : wd_S} {x : Int32} {S' : wd_S} (h : fn_Mo_node p1 p2 S = some (x, S')) : ev_r tb_P L xs (0 + 1) 166 [.ref 135, .int p1, .int p2] (wd_k S) (.inl (some (.int x)), wd_k S') := by
  unfold fn_Mo_node at h
  refine ev_of (Nat.le_of_ble_eq_true rfl) ?_
  show go_r tb_P L xs 0 166 0 [(0, .ref 135), (1, .int p1), (2, .int p2)] [] (wd_k S) (.inl (some (.int x)), wd_k S')
  refine bk_b (q := (1, [(0, .ref 135), (1, .int p1), (2, .int p2)], [.ref 135])) tb_c_166_0 mx_166 1 rfl ?_
  refine bk_gi tb_c_166_0 rfl rfl (ci := 11) (k := 27) rfl rfl rfl ?_
  refine bk_b (q := (7, [(0, .ref 135), (1, .int p1), (2, .int p2)], [.int (3003 : Int32), .int (S.1 135 27)])) tb_c_166_0 mx_166 1 rfl ?_
  by_cases g1 : (S.1 135 27) < (3003 : Int32)
  · rw [if_pos g1] at h
    refine bk_jf tb_c_166_0 rfl (pc' := 10) rfl (t := 17) rfl (cm_ge_f g1) ?_
    refine bk_b (q := (11, [(0, .ref 135), (1, .int p1), (2, .int p2)], [.ref 135])) tb_c_166_0 mx_166 1 rfl ?_
    refine bk_gi tb_c_166_0 rfl rfl (ci := 11) (k := 27) rfl rfl rfl ?_
    refine bk_b (q := (20, [(0, .ref 135), (1, .int p1), (2, .int p2)], [.int (S.1 135 27)])) tb_c_166_0 mx_166 1 rfl ?_
    exact go_lv (ls_sc rfl rfl (ls_sc rfl rfl (ls_sc rfl rfl ls_nil))) (sn_Mo_node_20 h)
  · rw [if_neg g1] at h
    refine bk_jt tb_c_166_0 rfl (pc' := 17) rfl (cm_ge_t g1) ?_
    refine bk_b (q := (20, [(0, .ref 135), (1, .int p1), (2, .int p2)], [.int (3003 : Int32)])) tb_c_166_0 mx_166 1 rfl ?_
    exact go_lv (ls_sc rfl rfl (ls_sc rfl rfl (ls_sc rfl rfl ls_nil))) (sn_Mo_node_20 h)
theorem mx_164 : mi_mx tb_P 164 = 2 := rfl
noncomputable def fn_Mo_onE_229 (S : wd_S) : Option wd_S :=
  some S
set_option maxRecDepth 100000 in
theorem sn_Mo_onE_229 {L : Nat} {xs : Nat → Int32} {S : wd_S} {S' : wd_S} (h : fn_Mo_onE_229  S = some S') : go_r tb_P L xs 5 164 229 [] [] (wd_k S) (.inl none, wd_k S') := by
  unfold fn_Mo_onE_229 at h
  cases h
  exact bk_t tb_c_164_3 rfl rfl
/-- SpecialiserModel.onE()V -/
noncomputable def fn_Mo_onE (S : wd_S) : Option wd_S :=
  (wd_c (fn_Mo_begins  S) fun x2 S1 =>
  (if x2 = 0 then
    (wd_d (fn_Mo_stop (2 : Int32) (S1.1 135 5) S1) fun S84 =>
    some S84)
  else
    (if (S1.1 135 38) = (24 : Int32) then
      (wd_d (fn_Mo_stop (6 : Int32) (S1.1 135 5) S1) fun S81 =>
      some S81)
    else
      (wd_b (wd_i S1 135 38 ((S1.1 135 38) + (1 : Int32))) fun S6 =>
      (wd_d (fn_Mo_push (5 : Int32) (0 : Int32) S6) fun S7 =>
      (if (S7.1 135 4) = (5 : Int32) then
        (wd_c (fn_Mo_node (3 : Int32) (S7.1 135 5) S7) fun x52 S51 =>
        (wd_d (fn_Mo_push (18 : Int32) x52 S51) fun S54 =>
        (wd_d (fn_Mo_push (16 : Int32) x52 S54) fun S57 =>
        (wd_d (fn_Mo_push (4 : Int32) (0 : Int32) S57) fun S60 =>
        (wd_d (fn_Mo_push (1 : Int32) (6 : Int32) S60) fun S63 =>
        (wd_d (fn_Mo_push (15 : Int32) x52 S63) fun S66 =>
        (wd_d (fn_Mo_push (4 : Int32) (0 : Int32) S66) fun S69 =>
        (wd_d (fn_Mo_push (1 : Int32) (13 : Int32) S69) fun S72 =>
        (wd_d (fn_Mo_push (13 : Int32) x52 S72) fun S75 =>
        (wd_d (fn_Mo_pass  S75) fun S78 =>
        fn_Mo_onE_229  S78))))))))))
      else
        (if (S7.1 135 4) = (2 : Int32) then
          (wd_c (fn_Mo_node (2 : Int32) (S7.1 135 5) S7) fun x19 S18 =>
          (wd_d (fn_Mo_push (18 : Int32) x19 S18) fun S21 =>
          (wd_d (fn_Mo_push (17 : Int32) x19 S21) fun S24 =>
          (wd_d (fn_Mo_push (4 : Int32) (0 : Int32) S24) fun S27 =>
          (wd_d (fn_Mo_push (1 : Int32) (4 : Int32) S27) fun S30 =>
          (wd_d (fn_Mo_push (16 : Int32) x19 S30) fun S33 =>
          (wd_d (fn_Mo_push (4 : Int32) (0 : Int32) S33) fun S36 =>
          (wd_d (fn_Mo_push (1 : Int32) (3 : Int32) S36) fun S39 =>
          (wd_d (fn_Mo_push (15 : Int32) x19 S39) fun S42 =>
          (wd_d (fn_Mo_push (4 : Int32) (0 : Int32) S42) fun S45 =>
          (wd_d (fn_Mo_pass  S45) fun S48 =>
          fn_Mo_onE_229  S48)))))))))))
        else
          (wd_d (fn_Mo_push (11 : Int32) (0 : Int32) S7) fun S12 =>
          (wd_d (fn_Mo_push (6 : Int32) (0 : Int32) S12) fun S15 =>
          fn_Mo_onE_229  S15)))))))))
set_option maxRecDepth 100000 in
theorem sn_Mo_onE {L : Nat} {xs : Nat → Int32} {S : wd_S} {S' : wd_S} (h : fn_Mo_onE  S = some S') : ev_r tb_P L xs (5 + 1) 164 [.ref 135] (wd_k S) (.inl none, wd_k S') := by
  unfold fn_Mo_onE at h
  refine ev_of (Nat.le_of_ble_eq_true rfl) ?_
  show go_r tb_P L xs 5 164 0 [(0, .ref 135)] [] (wd_k S) (.inl none, wd_k S')
  refine bk_b (q := (1, [(0, .ref 135)], [.ref 135])) tb_c_164_0 mx_164 1 rfl ?_
  obtain ⟨x2, S1, c3, h⟩ := wd_cx h
  refine bk_kv tb_c_164_0 rfl rfl rfl rfl rfl (ci := 11) rfl rfl (ev_up (Nat.le_of_ble_eq_true rfl) (sn_Mo_begins c3)) ?_
  by_cases g4 : x2 = 0
  · rw [if_pos g4] at h
    refine bk_zf tb_c_164_0 rfl (pc' := 7) rfl (t := 17) rfl (cm_ne_f g4) ?_
    refine bk_b (q := (10, [(0, .ref 135)], [.ref 135, .int (2 : Int32), .ref 135])) tb_c_164_0 mx_164 3 rfl ?_
    refine bk_gi tb_c_164_0 rfl rfl (ci := 11) (k := 5) rfl rfl rfl ?_
    obtain ⟨S84, c86, h⟩ := wd_dx h
    refine bk_kv tb_c_164_0 rfl rfl rfl rfl rfl (ci := 11) rfl rfl (ev_up (Nat.le_of_ble_eq_true rfl) (sn_Mo_stop c86)) ?_
    cases h
    exact bk_t tb_c_164_0 rfl rfl
  · rw [if_neg g4] at h
    refine bk_zt tb_c_164_0 rfl (pc' := 17) rfl (cm_ne_t g4) ?_
    refine bk_b (q := (18, [(0, .ref 135)], [.ref 135])) tb_c_164_0 mx_164 1 rfl ?_
    refine bk_gi tb_c_164_0 rfl rfl (ci := 11) (k := 38) rfl rfl rfl ?_
    refine bk_b (q := (23, [(0, .ref 135)], [.int (24 : Int32), .int (S1.1 135 38)])) tb_c_164_0 mx_164 1 rfl ?_
    by_cases g5 : (S1.1 135 38) = (24 : Int32)
    · rw [if_pos g5] at h
      refine bk_jf tb_c_164_0 rfl (pc' := 26) rfl (t := 37) rfl (cm_ne_f g5) ?_
      refine bk_b (q := (30, [(0, .ref 135)], [.ref 135, .int (6 : Int32), .ref 135])) tb_c_164_0 mx_164 3 rfl ?_
      refine bk_gi tb_c_164_0 rfl rfl (ci := 11) (k := 5) rfl rfl rfl ?_
      obtain ⟨S81, c83, h⟩ := wd_dx h
      refine bk_kv tb_c_164_0 rfl rfl rfl rfl rfl (ci := 11) rfl rfl (ev_up (Nat.le_of_ble_eq_true rfl) (sn_Mo_stop c83)) ?_
      cases h
      exact bk_t tb_c_164_0 rfl rfl
    · rw [if_neg g5] at h
      refine bk_jt tb_c_164_0 rfl (pc' := 37) rfl (cm_ne_t g5) ?_
      refine bk_b (q := (39, [(0, .ref 135)], [.ref 135, .ref 135])) tb_c_164_0 mx_164 2 rfl ?_
      refine bk_gi tb_c_164_0 rfl rfl (ci := 11) (k := 38) rfl rfl rfl ?_
      refine bk_b (q := (44, [(0, .ref 135)], [.int ((S1.1 135 38) + (1 : Int32)), .ref 135])) tb_c_164_0 mx_164 2 rfl ?_
      obtain ⟨S6, eS6, h⟩ := wd_bx h
      refine bk_pi tb_c_164_0 rfl rfl (ci := 11) (k := 38) rfl rfl rfl rfl ?_
      rw [eS6]
      refine bk_b (q := (50, [(0, .ref 135)], [.int (0 : Int32), .int (5 : Int32), .ref 135])) tb_c_164_0 mx_164 3 rfl ?_
      obtain ⟨S7, c9, h⟩ := wd_dx h
      refine bk_kv tb_c_164_0 rfl rfl rfl rfl rfl (ci := 11) rfl rfl (ev_up (Nat.le_of_ble_eq_true rfl) (sn_Mo_push c9)) ?_
      refine bk_b (q := (54, [(0, .ref 135)], [.ref 135])) tb_c_164_0 mx_164 1 rfl ?_
      refine bk_gi tb_c_164_0 rfl rfl (ci := 11) (k := 4) rfl rfl rfl ?_
      refine bk_b (q := (58, [(0, .ref 135)], [.int (5 : Int32), .int (S7.1 135 4)])) tb_c_164_0 mx_164 1 rfl ?_
      by_cases g10 : (S7.1 135 4) = (5 : Int32)
      · rw [if_pos g10] at h
        refine bk_jf tb_c_164_0 rfl (pc' := 61) rfl (t := 132) rfl (cm_ne_f g10) ?_
        refine bk_b (q := (64, [(0, .ref 135)], [.ref 135, .int (3 : Int32), .ref 135])) tb_c_164_0 mx_164 3 rfl ?_
        refine bk_gi tb_c_164_0 rfl rfl (ci := 11) (k := 5) rfl rfl rfl ?_
        obtain ⟨x52, S51, c53, h⟩ := wd_cx h
        refine bk_kv tb_c_164_0 rfl rfl rfl rfl rfl (ci := 11) rfl rfl (ev_up (Nat.le_of_ble_eq_true rfl) (sn_Mo_node c53)) ?_
        refine bk_b (q := (72, [(1, .int x52), (0, .ref 135)], [.ref 135])) tb_c_164_0 mx_164 2 rfl ?_
        refine bk_b (q := (75, [(1, .int x52), (0, .ref 135)], [.int x52, .int (18 : Int32), .ref 135])) tb_c_164_1 mx_164 2 rfl ?_
        obtain ⟨S54, c56, h⟩ := wd_dx h
        refine bk_kv tb_c_164_1 rfl rfl rfl rfl rfl (ci := 11) rfl rfl (ev_up (Nat.le_of_ble_eq_true rfl) (sn_Mo_push c56)) ?_
        refine bk_b (q := (82, [(1, .int x52), (0, .ref 135)], [.int x52, .int (16 : Int32), .ref 135])) tb_c_164_1 mx_164 3 rfl ?_
        obtain ⟨S57, c59, h⟩ := wd_dx h
        refine bk_kv tb_c_164_1 rfl rfl rfl rfl rfl (ci := 11) rfl rfl (ev_up (Nat.le_of_ble_eq_true rfl) (sn_Mo_push c59)) ?_
        refine bk_b (q := (88, [(1, .int x52), (0, .ref 135)], [.int (0 : Int32), .int (4 : Int32), .ref 135])) tb_c_164_1 mx_164 3 rfl ?_
        obtain ⟨S60, c62, h⟩ := wd_dx h
        refine bk_kv tb_c_164_1 rfl rfl rfl rfl rfl (ci := 11) rfl rfl (ev_up (Nat.le_of_ble_eq_true rfl) (sn_Mo_push c62)) ?_
        refine bk_b (q := (95, [(1, .int x52), (0, .ref 135)], [.int (6 : Int32), .int (1 : Int32), .ref 135])) tb_c_164_1 mx_164 3 rfl ?_
        obtain ⟨S63, c65, h⟩ := wd_dx h
        refine bk_kv tb_c_164_1 rfl rfl rfl rfl rfl (ci := 11) rfl rfl (ev_up (Nat.le_of_ble_eq_true rfl) (sn_Mo_push c65)) ?_
        refine bk_b (q := (102, [(1, .int x52), (0, .ref 135)], [.int x52, .int (15 : Int32), .ref 135])) tb_c_164_1 mx_164 3 rfl ?_
        obtain ⟨S66, c68, h⟩ := wd_dx h
        refine bk_kv tb_c_164_1 rfl rfl rfl rfl rfl (ci := 11) rfl rfl (ev_up (Nat.le_of_ble_eq_true rfl) (sn_Mo_push c68)) ?_
        refine bk_b (q := (108, [(1, .int x52), (0, .ref 135)], [.int (0 : Int32), .int (4 : Int32), .ref 135])) tb_c_164_1 mx_164 3 rfl ?_
        obtain ⟨S69, c71, h⟩ := wd_dx h
        refine bk_kv tb_c_164_1 rfl rfl rfl rfl rfl (ci := 11) rfl rfl (ev_up (Nat.le_of_ble_eq_true rfl) (sn_Mo_push c71)) ?_
        refine bk_b (q := (115, [(1, .int x52), (0, .ref 135)], [.int (13 : Int32), .int (1 : Int32), .ref 135])) tb_c_164_1 mx_164 3 rfl ?_
        obtain ⟨S72, c74, h⟩ := wd_dx h
        refine bk_kv tb_c_164_1 rfl rfl rfl rfl rfl (ci := 11) rfl rfl (ev_up (Nat.le_of_ble_eq_true rfl) (sn_Mo_push c74)) ?_
        refine bk_b (q := (122, [(1, .int x52), (0, .ref 135)], [.int x52, .int (13 : Int32), .ref 135])) tb_c_164_1 mx_164 3 rfl ?_
        obtain ⟨S75, c77, h⟩ := wd_dx h
        refine bk_kv tb_c_164_1 rfl rfl rfl rfl rfl (ci := 11) rfl rfl (ev_up (Nat.le_of_ble_eq_true rfl) (sn_Mo_push c77)) ?_
        refine bk_b (q := (126, [(1, .int x52), (0, .ref 135)], [.ref 135])) tb_c_164_1 mx_164 1 rfl ?_
        obtain ⟨S78, c80, h⟩ := wd_dx h
        refine bk_kv tb_c_164_1 rfl rfl rfl rfl rfl (ci := 11) rfl rfl (ev_up (Nat.le_of_ble_eq_true rfl) (sn_Mo_pass c80)) ?_
        refine bk_b (q := (229, [(1, .int x52), (0, .ref 135)], [])) tb_c_164_1 mx_164 1 rfl ?_
        exact go_lv ls_nil (sn_Mo_onE_229 h)
      · rw [if_neg g10] at h
        refine bk_jt tb_c_164_0 rfl (pc' := 132) rfl (cm_ne_t g10) ?_
        refine bk_b (q := (133, [(0, .ref 135)], [.ref 135])) tb_c_164_1 mx_164 1 rfl ?_
        refine bk_gi tb_c_164_1 rfl rfl (ci := 11) (k := 4) rfl rfl rfl ?_
        refine bk_b (q := (137, [(0, .ref 135)], [.int (2 : Int32), .int (S7.1 135 4)])) tb_c_164_1 mx_164 1 rfl ?_
        by_cases g11 : (S7.1 135 4) = (2 : Int32)
        · rw [if_pos g11] at h
          refine bk_jf tb_c_164_1 rfl (pc' := 140) rfl (t := 215) rfl (cm_ne_f g11) ?_
          refine bk_b (q := (142, [(0, .ref 135)], [.int (2 : Int32), .ref 135])) tb_c_164_1 mx_164 2 rfl ?_
          refine bk_b (q := (143, [(0, .ref 135)], [.ref 135, .int (2 : Int32), .ref 135])) tb_c_164_2 mx_164 1 rfl ?_
          refine bk_gi tb_c_164_2 rfl rfl (ci := 11) (k := 5) rfl rfl rfl ?_
          obtain ⟨x19, S18, c20, h⟩ := wd_cx h
          refine bk_kv tb_c_164_2 rfl rfl rfl rfl rfl (ci := 11) rfl rfl (ev_up (Nat.le_of_ble_eq_true rfl) (sn_Mo_node c20)) ?_
          refine bk_b (q := (154, [(1, .int x19), (0, .ref 135)], [.int x19, .int (18 : Int32), .ref 135])) tb_c_164_2 mx_164 4 rfl ?_
          obtain ⟨S21, c23, h⟩ := wd_dx h
          refine bk_kv tb_c_164_2 rfl rfl rfl rfl rfl (ci := 11) rfl rfl (ev_up (Nat.le_of_ble_eq_true rfl) (sn_Mo_push c23)) ?_
          refine bk_b (q := (161, [(1, .int x19), (0, .ref 135)], [.int x19, .int (17 : Int32), .ref 135])) tb_c_164_2 mx_164 3 rfl ?_
          obtain ⟨S24, c26, h⟩ := wd_dx h
          refine bk_kv tb_c_164_2 rfl rfl rfl rfl rfl (ci := 11) rfl rfl (ev_up (Nat.le_of_ble_eq_true rfl) (sn_Mo_push c26)) ?_
          refine bk_b (q := (167, [(1, .int x19), (0, .ref 135)], [.int (0 : Int32), .int (4 : Int32), .ref 135])) tb_c_164_2 mx_164 3 rfl ?_
          obtain ⟨S27, c29, h⟩ := wd_dx h
          refine bk_kv tb_c_164_2 rfl rfl rfl rfl rfl (ci := 11) rfl rfl (ev_up (Nat.le_of_ble_eq_true rfl) (sn_Mo_push c29)) ?_
          refine bk_b (q := (173, [(1, .int x19), (0, .ref 135)], [.int (4 : Int32), .int (1 : Int32), .ref 135])) tb_c_164_2 mx_164 3 rfl ?_
          obtain ⟨S30, c32, h⟩ := wd_dx h
          refine bk_kv tb_c_164_2 rfl rfl rfl rfl rfl (ci := 11) rfl rfl (ev_up (Nat.le_of_ble_eq_true rfl) (sn_Mo_push c32)) ?_
          refine bk_b (q := (180, [(1, .int x19), (0, .ref 135)], [.int x19, .int (16 : Int32), .ref 135])) tb_c_164_2 mx_164 3 rfl ?_
          obtain ⟨S33, c35, h⟩ := wd_dx h
          refine bk_kv tb_c_164_2 rfl rfl rfl rfl rfl (ci := 11) rfl rfl (ev_up (Nat.le_of_ble_eq_true rfl) (sn_Mo_push c35)) ?_
          refine bk_b (q := (186, [(1, .int x19), (0, .ref 135)], [.int (0 : Int32), .int (4 : Int32), .ref 135])) tb_c_164_2 mx_164 3 rfl ?_
          obtain ⟨S36, c38, h⟩ := wd_dx h
          refine bk_kv tb_c_164_2 rfl rfl rfl rfl rfl (ci := 11) rfl rfl (ev_up (Nat.le_of_ble_eq_true rfl) (sn_Mo_push c38)) ?_
          refine bk_b (q := (192, [(1, .int x19), (0, .ref 135)], [.int (3 : Int32), .int (1 : Int32), .ref 135])) tb_c_164_2 mx_164 3 rfl ?_
          obtain ⟨S39, c41, h⟩ := wd_dx h
          refine bk_kv tb_c_164_2 rfl rfl rfl rfl rfl (ci := 11) rfl rfl (ev_up (Nat.le_of_ble_eq_true rfl) (sn_Mo_push c41)) ?_
          refine bk_b (q := (199, [(1, .int x19), (0, .ref 135)], [.int x19, .int (15 : Int32), .ref 135])) tb_c_164_2 mx_164 3 rfl ?_
          obtain ⟨S42, c44, h⟩ := wd_dx h
          refine bk_kv tb_c_164_2 rfl rfl rfl rfl rfl (ci := 11) rfl rfl (ev_up (Nat.le_of_ble_eq_true rfl) (sn_Mo_push c44)) ?_
          refine bk_b (q := (205, [(1, .int x19), (0, .ref 135)], [.int (0 : Int32), .int (4 : Int32), .ref 135])) tb_c_164_2 mx_164 3 rfl ?_
          obtain ⟨S45, c47, h⟩ := wd_dx h
          refine bk_kv tb_c_164_2 rfl rfl rfl rfl rfl (ci := 11) rfl rfl (ev_up (Nat.le_of_ble_eq_true rfl) (sn_Mo_push c47)) ?_
          refine bk_b (q := (209, [(1, .int x19), (0, .ref 135)], [.ref 135])) tb_c_164_3 mx_164 1 rfl ?_
          obtain ⟨S48, c50, h⟩ := wd_dx h
          refine bk_kv tb_c_164_3 rfl rfl rfl rfl rfl (ci := 11) rfl rfl (ev_up (Nat.le_of_ble_eq_true rfl) (sn_Mo_pass c50)) ?_
          refine bk_b (q := (229, [(1, .int x19), (0, .ref 135)], [])) tb_c_164_3 mx_164 1 rfl ?_
          exact go_lv ls_nil (sn_Mo_onE_229 h)
        · rw [if_neg g11] at h
          refine bk_jt tb_c_164_1 rfl (pc' := 215) rfl (cm_ne_t g11) ?_
          refine bk_b (q := (219, [(0, .ref 135)], [.int (0 : Int32), .int (11 : Int32), .ref 135])) tb_c_164_3 mx_164 3 rfl ?_
          obtain ⟨S12, c14, h⟩ := wd_dx h
          refine bk_kv tb_c_164_3 rfl rfl rfl rfl rfl (ci := 11) rfl rfl (ev_up (Nat.le_of_ble_eq_true rfl) (sn_Mo_push c14)) ?_
          refine bk_b (q := (226, [(0, .ref 135)], [.int (0 : Int32), .int (6 : Int32), .ref 135])) tb_c_164_3 mx_164 3 rfl ?_
          obtain ⟨S15, c17, h⟩ := wd_dx h
          refine bk_kv tb_c_164_3 rfl rfl rfl rfl rfl (ci := 11) rfl rfl (ev_up (Nat.le_of_ble_eq_true rfl) (sn_Mo_push c17)) ?_
          exact go_lv ls_nil (sn_Mo_onE_229 h)
