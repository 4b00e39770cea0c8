/-! Methods as functions: printed by wip/whole/gen_fn.py. -/
theorem mx_105 : mi_mx tb_P 105 = 3 := rfl
noncomputable def fn_Runner_goOnIf_82 (S : wd_S) : Option wd_S :=
  some S
set_option maxRecDepth 100000 in
theorem sn_Runner_goOnIf_82 {L : Nat} {xs : Nat → Int32} {S : wd_S} {S' : wd_S} (h : fn_Runner_goOnIf_82  S = some S') : go_r tb_P L xs 2 105 82 [] [] (wd_k S) (.inl none, wd_k S') := by
  unfold fn_Runner_goOnIf_82 at h
  cases h
  exact bk_t tb_c_105_1 rfl rfl
noncomputable def fn_Runner_goOnIf_54 (s1 : Nat) (s2 : Int32) (s3 : Int32) (S : wd_S) : Option wd_S :=
  (wd_c (fn_Trees_part s1 s2 s3 S) fun x9 S8 =>
  (wd_c (fn_Row_at 111 (S8.1 104 8) S8) fun x12 S11 =>
  (wd_d (fn_Runner_begin x9 x12 S11) fun S14 =>
  fn_Runner_goOnIf_82  S14)))
set_option maxRecDepth 100000 in
theorem sn_Runner_goOnIf_54 {L : Nat} {xs : Nat → Int32} {s1 : Nat} {s2 : Int32} {s3 : Int32} {S : wd_S} {S' : wd_S} (hs1 : tp_t s1 = (0, 8)) (h : fn_Runner_goOnIf_54 s1 s2 s3 S = some S') : go_r tb_P L xs 2 105 54 [(0, .ref 104)] [.int s3, .int s2, .ref s1, .ref 104] (wd_k S) (.inl none, wd_k S') := by
  unfold fn_Runner_goOnIf_54 at h
  obtain ⟨x9, S8, c10, h⟩ := wd_cx h
  refine bk_kv tb_c_105_0 rfl rfl rfl rfl rfl (ci := 8) hs1 rfl (ev_up (Nat.le_of_ble_eq_true rfl) (sn_Trees_part hs1 c10)) ?_
  refine bk_b (q := (58, [(0, .ref 104)], [.ref 104, .int x9, .ref 104])) tb_c_105_0 mx_105 1 rfl ?_
  refine bk_gc tb_c_105_0 rfl rfl (ci := 6) (k := 3) rfl rfl rfl ?_
  refine bk_b (q := (62, [(0, .ref 104)], [.ref 104, .ref 111, .int x9, .ref 104])) tb_c_105_0 mx_105 1 rfl ?_
  refine bk_gi tb_c_105_0 rfl rfl (ci := 6) (k := 8) rfl rfl rfl ?_
  obtain ⟨x12, S11, c13, h⟩ := wd_cx h
  refine bk_kv tb_c_105_0 rfl rfl rfl rfl rfl (ci := 5) rfl rfl (ev_up (Nat.le_of_ble_eq_true rfl) (sn_Row_at rfl c13)) ?_
  obtain ⟨S14, c16, h⟩ := wd_dx h
  refine bk_kv tb_c_105_0 rfl rfl rfl rfl rfl (ci := 6) rfl rfl (ev_up (Nat.le_of_ble_eq_true rfl) (sn_Runner_begin c16)) ?_
  refine bk_b (q := (82, [(0, .ref 104)], [])) tb_c_105_0 mx_105 1 rfl ?_
  exact go_lv ls_nil (sn_Runner_goOnIf_82 h)
/-- Specialiser$Runner.goOnIf(II)V -/
noncomputable def fn_Runner_goOnIf (p1 : Int32) (p2 : Int32) (S : wd_S) : Option wd_S :=
  (if p2 = 0 then
    (if tp_t (S.2.2.1 104 6) = (0, 8) then
      (wd_c (fn_Trees_part (S.2.2.1 104 6) p1 (0 : Int32) S) fun x19 S18 =>
      (wd_c (fn_Row_at 111 (S18.1 104 8) S18) fun x22 S21 =>
      (wd_d (fn_Runner_begin x19 x22 S21) fun S24 =>
      fn_Runner_goOnIf_82  S24)))
    else none)
  else
    (if p2 = (1 : Int32) then
      (if tp_t (S.2.2.1 104 6) = (0, 8) then
        (if (S.1 104 11) = 0 then
          fn_Runner_goOnIf_54 (S.2.2.1 104 6) p1 (2 : Int32) S
        else
          fn_Runner_goOnIf_54 (S.2.2.1 104 6) p1 (1 : Int32) S)
      else none)
    else
      (wd_d (fn_Runner_finish (S.1 104 11) S) fun S3 =>
      fn_Runner_goOnIf_82  S3)))
set_option maxRecDepth 100000 in
theorem sn_Runner_goOnIf {L : Nat} {xs : Nat → Int32} {p1 : Int32} {p2 : Int32} {S : wd_S} {S' : wd_S} (h : fn_Runner_goOnIf p1 p2 S = some S') : ev_r tb_P L xs (2 + 1) 105 [.ref 104, .int p1, .int p2] (wd_k S) (.inl none, wd_k S') := by
  unfold fn_Runner_goOnIf at h
  refine ev_of (Nat.le_of_ble_eq_true rfl) ?_
  show go_r tb_P L xs 2 105 0 [(0, .ref 104), (1, .int p1), (2, .int p2)] [] (wd_k S) (.inl none, wd_k S')
  refine bk_b (q := (1, [(0, .ref 104), (1, .int p1), (2, .int p2)], [.int p2])) tb_c_105_0 mx_105 1 rfl ?_
  by_cases g1 : p2 = 0
  · rw [if_pos g1] at h
    refine bk_zf tb_c_105_0 rfl (pc' := 4) rfl (t := 31) rfl (cm_ne_f g1) ?_
    refine bk_b (q := (6, [(0, .ref 104), (1, .int p1), (2, .int p2)], [.ref 104, .ref 104])) tb_c_105_0 mx_105 2 rfl ?_
    refine bk_gm tb_c_105_0 rfl rfl (ci := 6) (k := 6) rfl rfl rfl ?_
    by_cases g17 : tp_t (S.2.2.1 104 6) = (0, 8)
    · rw [if_pos g17] at h
      refine bk_b (q := (11, [(0, .ref 104), (1, .int p1), (2, .int p2)], [.int (0 : Int32), .int p1, .ref (S.2.2.1 104 6), .ref 104])) tb_c_105_0 mx_105 2 rfl ?_
      obtain ⟨x19, S18, c20, h⟩ := wd_cx h
      refine bk_kv tb_c_105_0 rfl rfl rfl rfl rfl (ci := 8) g17 rfl (ev_up (Nat.le_of_ble_eq_true rfl) (sn_Trees_part g17 c20)) ?_
      refine bk_b (q := (15, [(0, .ref 104), (1, .int p1), (2, .int p2)], [.ref 104, .int x19, .ref 104])) tb_c_105_0 mx_105 1 rfl ?_
      refine bk_gc tb_c_105_0 rfl rfl (ci := 6) (k := 3) rfl rfl rfl ?_
      refine bk_b (q := (19, [(0, .ref 104), (1, .int p1), (2, .int p2)], [.ref 104, .ref 111, .int x19, .ref 104])) tb_c_105_0 mx_105 1 rfl ?_
      refine bk_gi tb_c_105_0 rfl rfl (ci := 6) (k := 8) rfl rfl rfl ?_
      obtain ⟨x22, S21, c23, h⟩ := wd_cx h
      refine bk_kv tb_c_105_0 rfl rfl rfl rfl rfl (ci := 5) rfl rfl (ev_up (Nat.le_of_ble_eq_true rfl) (sn_Row_at rfl c23)) ?_
      obtain ⟨S24, c26, h⟩ := wd_dx h
      refine bk_kv tb_c_105_0 rfl rfl rfl rfl rfl (ci := 6) rfl rfl (ev_up (Nat.le_of_ble_eq_true rfl) (sn_Runner_begin c26)) ?_
      refine bk_b (q := (82, [(0, .ref 104), (1, .int p1), (2, .int p2)], [])) tb_c_105_0 mx_105 1 rfl ?_
      exact go_lv ls_nil (sn_Runner_goOnIf_82 h)
    · rw [if_neg g17] at h; cases h
  · rw [if_neg g1] at h
    refine bk_zt tb_c_105_0 rfl (pc' := 31) rfl (cm_ne_t g1) ?_
    refine bk_b (q := (33, [(0, .ref 104), (1, .int p1), (2, .int p2)], [.int (1 : Int32), .int p2])) tb_c_105_0 mx_105 2 rfl ?_
    by_cases g2 : p2 = (1 : Int32)
    · rw [if_pos g2] at h
      refine bk_jf tb_c_105_0 rfl (pc' := 36) rfl (t := 74) rfl (cm_ne_f g2) ?_
      refine bk_b (q := (38, [(0, .ref 104), (1, .int p1), (2, .int p2)], [.ref 104, .ref 104])) tb_c_105_0 mx_105 2 rfl ?_
      refine bk_gm tb_c_105_0 rfl rfl (ci := 6) (k := 6) rfl rfl rfl ?_
      by_cases g6 : tp_t (S.2.2.1 104 6) = (0, 8)
      · rw [if_pos g6] at h
        refine bk_b (q := (43, [(0, .ref 104), (1, .int p1), (2, .int p2)], [.ref 104, .int p1, .ref (S.2.2.1 104 6), .ref 104])) tb_c_105_0 mx_105 2 rfl ?_
        refine bk_gi tb_c_105_0 rfl rfl (ci := 6) (k := 11) rfl rfl rfl ?_
        by_cases g7 : (S.1 104 11) = 0
        · rw [if_pos g7] at h
          refine bk_zf tb_c_105_0 rfl (pc' := 49) rfl (t := 53) rfl (cm_ne_f g7) ?_
          refine bk_b (q := (54, [(0, .ref 104), (1, .int p1), (2, .int p2)], [.int (2 : Int32), .int p1, .ref (S.2.2.1 104 6), .ref 104])) tb_c_105_0 mx_105 2 rfl ?_
          exact go_lv (ls_sc rfl rfl ls_nil) (sn_Runner_goOnIf_54 g6 h)
        · rw [if_neg g7] at h
          refine bk_zt tb_c_105_0 rfl (pc' := 53) rfl (cm_ne_t g7) ?_
          refine bk_b (q := (54, [(0, .ref 104), (1, .int p1), (2, .int p2)], [.int (1 : Int32), .int p1, .ref (S.2.2.1 104 6), .ref 104])) tb_c_105_0 mx_105 1 rfl ?_
          exact go_lv (ls_sc rfl rfl ls_nil) (sn_Runner_goOnIf_54 g6 h)
      · rw [if_neg g6] at h; cases h
    · rw [if_neg g2] at h
      refine bk_jt tb_c_105_0 rfl (pc' := 74) rfl (cm_ne_t g2) ?_
      refine bk_b (q := (76, [(0, .ref 104), (1, .int p1), (2, .int p2)], [.ref 104, .ref 104])) tb_c_105_0 mx_105 2 rfl ?_
      refine bk_gi tb_c_105_0 rfl rfl (ci := 6) (k := 11) rfl rfl rfl ?_
      obtain ⟨S3, c5, h⟩ := wd_dx h
      refine bk_kv tb_c_105_0 rfl rfl rfl rfl rfl (ci := 6) rfl rfl (ev_up (Nat.le_of_ble_eq_true rfl) (sn_Runner_finish c5)) ?_
      exact go_lv ls_nil (sn_Runner_goOnIf_82 h)
theorem mx_106 : mi_mx tb_P 106 = 4 := rfl
noncomputable def fn_Runner_goOnCall_104 (S : wd_S) : Option wd_S :=
  some S
set_option maxRecDepth 100000 in
theorem sn_Runner_goOnCall_104 {L : Nat} {xs : Nat → Int32} {S : wd_S} {S' : wd_S} (h : fn_Runner_goOnCall_104  S = some S') : go_r tb_P L xs 2 106 104 [] [] (wd_k S) (.inl none, wd_k S') := by
  unfold fn_Runner_goOnCall_104 at h
  cases h
  exact bk_t tb_c_106_1 rfl rfl
noncomputable def fn_Runner_goOnCall_49 (l1 : Int32) (l2 : Int32) (l3 : Int32) (S : wd_S) : Option wd_S :=
  (if l2 < l3 then
    (if tp_t (S.2.2.1 104 6) = (0, 8) then
      (wd_c (fn_Trees_part (S.2.2.1 104 6) l1 l2 S) fun x21 S20 =>
      (wd_c (fn_Row_at 111 (S20.1 104 8) S20) fun x24 S23 =>
      (wd_d (fn_Runner_begin x21 x24 S23) fun S26 =>
      fn_Runner_goOnCall_104  S26)))
    else none)
  else
    (if tp_t (S.2.2.1 104 5) = (0, 0) then
      (if tp_t (S.2.2.1 104 6) = (0, 8) then
        (wd_c (fn_Trees_value (S.2.2.1 104 6) l1 S) fun x11 S10 =>
        (wd_c (fn_Bodies_root (S.2.2.1 104 5) x11 S10) fun x14 S13 =>
        (wd_d (fn_Runner_begin x14 (S13.1 104 8) S13) fun S16 =>
        fn_Runner_goOnCall_104  S16)))
      else none)
    else none))
set_option maxRecDepth 100000 in
theorem sn_Runner_goOnCall_49 {L : Nat} {xs : Nat → Int32} {l1 : Int32} {l2 : Int32} {l3 : Int32} {S : wd_S} {S' : wd_S} (h : fn_Runner_goOnCall_49 l1 l2 l3 S = some S') : go_r tb_P L xs 2 106 49 [(0, .ref 104), (1, .int l1), (2, .int l2), (3, .int l3)] [] (wd_k S) (.inl none, wd_k S') := by
  unfold fn_Runner_goOnCall_49 at h
  refine bk_b (q := (51, [(0, .ref 104), (1, .int l1), (2, .int l2), (3, .int l3)], [.int l3, .int l2])) tb_c_106_0 mx_106 2 rfl ?_
  by_cases g7 : l2 < l3
  · rw [if_pos g7] at h
    refine bk_jf tb_c_106_0 rfl (pc' := 54) rfl (t := 81) rfl (cm_ge_f g7) ?_
    refine bk_b (q := (56, [(0, .ref 104), (1, .int l1), (2, .int l2), (3, .int l3)], [.ref 104, .ref 104])) tb_c_106_0 mx_106 2 rfl ?_
    refine bk_gm tb_c_106_0 rfl rfl (ci := 6) (k := 6) rfl rfl rfl ?_
    by_cases g19 : tp_t (S.2.2.1 104 6) = (0, 8)
    · rw [if_pos g19] at h
      refine bk_b (q := (61, [(0, .ref 104), (1, .int l1), (2, .int l2), (3, .int l3)], [.int l2, .int l1, .ref (S.2.2.1 104 6), .ref 104])) tb_c_106_0 mx_106 2 rfl ?_
      obtain ⟨x21, S20, c22, h⟩ := wd_cx h
      refine bk_kv tb_c_106_0 rfl rfl rfl rfl rfl (ci := 8) g19 rfl (ev_up (Nat.le_of_ble_eq_true rfl) (sn_Trees_part g19 c22)) ?_
      refine bk_b (q := (65, [(0, .ref 104), (1, .int l1), (2, .int l2), (3, .int l3)], [.ref 104, .int x21, .ref 104])) tb_c_106_0 mx_106 1 rfl ?_
      refine bk_gc tb_c_106_0 rfl rfl (ci := 6) (k := 3) rfl rfl rfl ?_
      refine bk_b (q := (69, [(0, .ref 104), (1, .int l1), (2, .int l2), (3, .int l3)], [.ref 104, .ref 111, .int x21, .ref 104])) tb_c_106_0 mx_106 1 rfl ?_
      refine bk_gi tb_c_106_1 rfl rfl (ci := 6) (k := 8) rfl rfl rfl ?_
      obtain ⟨x24, S23, c25, h⟩ := wd_cx h
      refine bk_kv tb_c_106_1 rfl rfl rfl rfl rfl (ci := 5) rfl rfl (ev_up (Nat.le_of_ble_eq_true rfl) (sn_Row_at rfl c25)) ?_
      obtain ⟨S26, c28, h⟩ := wd_dx h
      refine bk_kv tb_c_106_1 rfl rfl rfl rfl rfl (ci := 6) rfl rfl (ev_up (Nat.le_of_ble_eq_true rfl) (sn_Runner_begin c28)) ?_
      refine bk_b (q := (104, [(0, .ref 104), (1, .int l1), (2, .int l2), (3, .int l3)], [])) tb_c_106_1 mx_106 1 rfl ?_
      exact go_lv ls_nil (sn_Runner_goOnCall_104 h)
    · rw [if_neg g19] at h; cases h
  · rw [if_neg g7] at h
    refine bk_jt tb_c_106_0 rfl (pc' := 81) rfl (cm_ge_t g7) ?_
    refine bk_b (q := (83, [(0, .ref 104), (1, .int l1), (2, .int l2), (3, .int l3)], [.ref 104, .ref 104])) tb_c_106_1 mx_106 2 rfl ?_
    refine bk_gm tb_c_106_1 rfl rfl (ci := 6) (k := 5) rfl rfl rfl ?_
    by_cases g8 : tp_t (S.2.2.1 104 5) = (0, 0)
    · rw [if_pos g8] at h
      refine bk_b (q := (87, [(0, .ref 104), (1, .int l1), (2, .int l2), (3, .int l3)], [.ref 104, .ref (S.2.2.1 104 5), .ref 104])) tb_c_106_1 mx_106 1 rfl ?_
      refine bk_gm tb_c_106_1 rfl rfl (ci := 6) (k := 6) rfl rfl rfl ?_
      by_cases g9 : tp_t (S.2.2.1 104 6) = (0, 8)
      · rw [if_pos g9] at h
        refine bk_b (q := (91, [(0, .ref 104), (1, .int l1), (2, .int l2), (3, .int l3)], [.int l1, .ref (S.2.2.1 104 6), .ref (S.2.2.1 104 5), .ref 104])) tb_c_106_1 mx_106 1 rfl ?_
        obtain ⟨x11, S10, c12, h⟩ := wd_cx h
        refine bk_kv tb_c_106_1 rfl rfl rfl rfl rfl (ci := 8) g9 rfl (ev_up (Nat.le_of_ble_eq_true rfl) (sn_Trees_value g9 c12)) ?_
        obtain ⟨x14, S13, c15, h⟩ := wd_cx h
        refine bk_kv tb_c_106_1 rfl rfl rfl rfl rfl (ci := 0) g8 rfl (ev_up (Nat.le_of_ble_eq_true rfl) (sn_Bodies_root g8 c15)) ?_
        refine bk_b (q := (98, [(0, .ref 104), (1, .int l1), (2, .int l2), (3, .int l3)], [.ref 104, .int x14, .ref 104])) tb_c_106_1 mx_106 1 rfl ?_
        refine bk_gi tb_c_106_1 rfl rfl (ci := 6) (k := 8) rfl rfl rfl ?_
        obtain ⟨S16, c18, h⟩ := wd_dx h
        refine bk_kv tb_c_106_1 rfl rfl rfl rfl rfl (ci := 6) rfl rfl (ev_up (Nat.le_of_ble_eq_true rfl) (sn_Runner_begin c18)) ?_
        exact go_lv ls_nil (sn_Runner_goOnCall_104 h)
      · rw [if_neg g9] at h; cases h
    · rw [if_neg g8] at h; cases h
/-- Specialiser$Runner.goOnCall(II)V -/
noncomputable def fn_Runner_goOnCall (p1 : Int32) (p2 : Int32) (S : wd_S) : Option wd_S :=
  (if tp_t (S.2.2.1 104 6) = (0, 8) then
    (wd_c (fn_Trees_parts (S.2.2.1 104 6) p1 S) fun x3 S2 =>
    (if x3 < p2 then
      (wd_d (fn_Runner_finish (S2.1 104 11) S2) fun S32 =>
      some S32)
    else
      (if 0 < p2 then
        (wd_d (fn_Row_put 113 ((((S2.1 104 8) * (16 : Int32)) + p2) - (1 : Int32)) (S2.1 104 11) S2) fun S29 =>
        fn_Runner_goOnCall_49 p1 p2 x3 S29)
      else
        fn_Runner_goOnCall_49 p1 p2 x3 S2)))
  else none)
set_option maxRecDepth 100000 in
theorem sn_Runner_goOnCall {L : Nat} {xs : Nat → Int32} {p1 : Int32} {p2 : Int32} {S : wd_S} {S' : wd_S} (h : fn_Runner_goOnCall p1 p2 S = some S') : ev_r tb_P L xs (2 + 1) 106 [.ref 104, .int p1, .int p2] (wd_k S) (.inl none, wd_k S') := by
  unfold fn_Runner_goOnCall at h
  refine ev_of (Nat.le_of_ble_eq_true rfl) ?_
  show go_r tb_P L xs 2 106 0 [(0, .ref 104), (1, .int p1), (2, .int p2)] [] (wd_k S) (.inl none, wd_k S')
  refine bk_b (q := (1, [(0, .ref 104), (1, .int p1), (2, .int p2)], [.ref 104])) tb_c_106_0 mx_106 1 rfl ?_
  refine bk_gm tb_c_106_0 rfl rfl (ci := 6) (k := 6) rfl rfl rfl ?_
  by_cases g1 : tp_t (S.2.2.1 104 6) = (0, 8)
  · rw [if_pos g1] at h
    refine bk_b (q := (5, [(0, .ref 104), (1, .int p1), (2, .int p2)], [.int p1, .ref (S.2.2.1 104 6)])) tb_c_106_0 mx_106 1 rfl ?_
    obtain ⟨x3, S2, c4, h⟩ := wd_cx h
    refine bk_kv tb_c_106_0 rfl rfl rfl rfl rfl (ci := 8) g1 rfl (ev_up (Nat.le_of_ble_eq_true rfl) (sn_Trees_parts g1 c4)) ?_
    refine bk_b (q := (11, [(3, .int x3), (0, .ref 104), (1, .int p1), (2, .int p2)], [.int x3, .int p2])) tb_c_106_0 mx_106 3 rfl ?_
    by_cases g5 : x3 < p2
    · rw [if_pos g5] at h
      refine bk_jf tb_c_106_0 rfl (pc' := 14) rfl (t := 23) rfl (cm_le_f g5) ?_
      refine bk_b (q := (16, [(3, .int x3), (0, .ref 104), (1, .int p1), (2, .int p2)], [.ref 104, .ref 104])) tb_c_106_0 mx_106 2 rfl ?_
      refine bk_gi tb_c_106_0 rfl rfl (ci := 6) (k := 11) rfl rfl rfl ?_
      obtain ⟨S32, c34, h⟩ := wd_dx h
      refine bk_kv tb_c_106_0 rfl rfl rfl rfl rfl (ci := 6) rfl rfl (ev_up (Nat.le_of_ble_eq_true rfl) (sn_Runner_finish c34)) ?_
      cases h
      exact bk_t tb_c_106_0 rfl rfl
    · rw [if_neg g5] at h
      refine bk_jt tb_c_106_0 rfl (pc' := 23) rfl (cm_le_t g5) ?_
      refine bk_b (q := (24, [(3, .int x3), (0, .ref 104), (1, .int p1), (2, .int p2)], [.int p2])) tb_c_106_0 mx_106 1 rfl ?_
      by_cases g6 : 0 < p2
      · rw [if_pos g6] at h
        refine bk_zf tb_c_106_0 rfl (pc' := 27) rfl (t := 49) rfl (cm_le_f g6) ?_
        refine bk_b (q := (28, [(3, .int x3), (0, .ref 104), (1, .int p1), (2, .int p2)], [.ref 104])) tb_c_106_0 mx_106 1 rfl ?_
        refine bk_gc tb_c_106_0 rfl rfl (ci := 6) (k := 4) rfl rfl rfl ?_
        refine bk_b (q := (32, [(3, .int x3), (0, .ref 104), (1, .int p1), (2, .int p2)], [.ref 104, .ref 113])) tb_c_106_0 mx_106 1 rfl ?_
        refine bk_gi tb_c_106_0 rfl rfl (ci := 6) (k := 8) rfl rfl rfl ?_
        refine bk_b (q := (43, [(3, .int x3), (0, .ref 104), (1, .int p1), (2, .int p2)], [.ref 104, .int ((((S2.1 104 8) * (16 : Int32)) + p2) - (1 : Int32)), .ref 113])) tb_c_106_0 mx_106 7 rfl ?_
        refine bk_gi tb_c_106_0 rfl rfl (ci := 6) (k := 11) rfl rfl rfl ?_
        obtain ⟨S29, c31, h⟩ := wd_dx h
        refine bk_kv tb_c_106_0 rfl rfl rfl rfl rfl (ci := 5) rfl rfl (ev_up (Nat.le_of_ble_eq_true rfl) (sn_Row_put rfl c31)) ?_
        exact go_lv (ls_sc rfl rfl (ls_sc rfl rfl (ls_sc rfl rfl (ls_sc rfl rfl ls_nil)))) (sn_Runner_goOnCall_49 h)
      · rw [if_neg g6] at h
        refine bk_zt tb_c_106_0 rfl (pc' := 49) rfl (cm_le_t g6) ?_
        exact go_lv (ls_sc rfl rfl (ls_sc rfl rfl (ls_sc rfl rfl (ls_sc rfl rfl ls_nil)))) (sn_Runner_goOnCall_49 h)
  · rw [if_neg g1] at h; cases h
theorem mx_108 : mi_mx tb_P 108 = 3 := rfl
noncomputable def fn_Sp_signed_54 (s0 : Int32) (S : wd_S) : Option (Int32 × wd_S) :=
  some (s0, S)
set_option maxRecDepth 100000 in
theorem sn_Sp_signed_54 {L : Nat} {xs : Nat → Int32} {s0 : Int32} {S : wd_S} {x : Int32} {S' : wd_S} (h : fn_Sp_signed_54 s0 S = some (x, S')) : go_r tb_P L xs 0 108 54 [] [.int s0] (wd_k S) (.inl (some (.int x)), wd_k S') := by
  unfold fn_Sp_signed_54 at h
  cases h
  exact bk_t tb_c_108_0 rfl rfl
noncomputable def fn_Sp_signed_65 (s0 : Int32) (S : wd_S) : Option (Int32 × wd_S) :=
  some (s0, S)
set_option maxRecDepth 100000 in
theorem sn_Sp_signed_65 {L : Nat} {xs : Nat → Int32} {s0 : Int32} {S : wd_S} {x : Int32} {S' : wd_S} (h : fn_Sp_signed_65 s0 S = some (x, S')) : go_r tb_P L xs 0 108 65 [] [.int s0] (wd_k S) (.inl (some (.int x)), wd_k S') := by
  unfold fn_Sp_signed_65 at h
  cases h
  exact bk_t tb_c_108_0 rfl rfl
/-- Specialiser.signed(III)I -/
noncomputable def fn_Sp_signed (p0 : Int32) (p1 : Int32) (p2 : Int32) (S : wd_S) : Option (Int32 × wd_S) :=
  (if p0 = (6 : Int32) then
    some ((p1 + p2), S)
  else
  (if p0 = (7 : Int32) then
    some ((p1 - p2), S)
  else
  (if p0 = (8 : Int32) then
    some ((p1 * p2), S)
  else
  (if p0 = (9 : Int32) then
    (if p1 < p2 then
      fn_Sp_signed_54 (1 : Int32) S
    else
      fn_Sp_signed_54 (0 : Int32) S)
  else
  (if p1 = p2 then
    fn_Sp_signed_65 (1 : Int32) S
  else
    fn_Sp_signed_65 (0 : Int32) S)))))
set_option maxRecDepth 100000 in
theorem sn_Sp_signed {L : Nat} {xs : Nat → Int32} {p0 : Int32} {p1 : Int32} {p2 : Int32} {S : wd_S} {x : Int32} {S' : wd_S} (h : fn_Sp_signed p0 p1 p2 S = some (x, S')) : ev_r tb_P L xs (0 + 1) 108 [.int p0, .int p1, .int p2] (wd_k S) (.inl (some (.int x)), wd_k S') := by
  unfold fn_Sp_signed at h
  refine ev_of (Nat.le_of_ble_eq_true rfl) ?_
  show go_r tb_P L xs 0 108 0 [(0, .int p0), (1, .int p1), (2, .int p2)] [] (wd_k S) (.inl (some (.int x)), wd_k S')
  refine bk_b (q := (1, [(0, .int p0), (1, .int p1), (2, .int p2)], [.int p0])) tb_c_108_0 mx_108 1 rfl ?_
  by_cases g1 : p0 = (6 : Int32)
  · rw [if_pos g1] at h
    refine bk_sw tb_c_108_0 rfl (pc' := 32) (by rw [g1]; rfl) ?_
    refine bk_b (q := (35, [(0, .int p0), (1, .int p1), (2, .int p2)], [.int (p1 + p2)])) tb_c_108_0 mx_108 3 rfl ?_
    cases h
    exact bk_t tb_c_108_0 rfl rfl
  · rw [if_neg g1] at h
    by_cases g2 : p0 = (7 : Int32)
    · rw [if_pos g2] at h
      refine bk_sw tb_c_108_0 rfl (pc' := 36) (by rw [g2]; rfl) ?_
      refine bk_b (q := (39, [(0, .int p0), (1, .int p1), (2, .int p2)], [.int (p1 - p2)])) tb_c_108_0 mx_108 3 rfl ?_
      cases h
      exact bk_t tb_c_108_0 rfl rfl
    · rw [if_neg g2] at h
      by_cases g3 : p0 = (8 : Int32)
      · rw [if_pos g3] at h
        refine bk_sw tb_c_108_0 rfl (pc' := 40) (by rw [g3]; rfl) ?_
        refine bk_b (q := (43, [(0, .int p0), (1, .int p1), (2, .int p2)], [.int (p1 * p2)])) tb_c_108_0 mx_108 3 rfl ?_
        cases h
        exact bk_t tb_c_108_0 rfl rfl
      · rw [if_neg g3] at h
        by_cases g4 : p0 = (9 : Int32)
        · rw [if_pos g4] at h
          refine bk_sw tb_c_108_0 rfl (pc' := 44) (by rw [g4]; rfl) ?_
          refine bk_b (q := (46, [(0, .int p0), (1, .int p1), (2, .int p2)], [.int p2, .int p1])) tb_c_108_0 mx_108 2 rfl ?_
          by_cases g5 : p1 < p2
          · rw [if_pos g5] at h
            refine bk_jf tb_c_108_0 rfl (pc' := 49) rfl (t := 53) rfl (cm_ge_f g5) ?_
            refine bk_b (q := (54, [(0, .int p0), (1, .int p1), (2, .int p2)], [.int (1 : Int32)])) tb_c_108_0 mx_108 2 rfl ?_
            exact go_lv ls_nil (sn_Sp_signed_54 h)
          · rw [if_neg g5] at h
            refine bk_jt tb_c_108_0 rfl (pc' := 53) rfl (cm_ge_t g5) ?_
            refine bk_b (q := (54, [(0, .int p0), (1, .int p1), (2, .int p2)], [.int (0 : Int32)])) tb_c_108_0 mx_108 1 rfl ?_
            exact go_lv ls_nil (sn_Sp_signed_54 h)
        · rw [if_neg g4] at h
          refine bk_sw tb_c_108_0 rfl (pc' := 55) (sw_t (t := 55) (fun i h1 h2 => ?_) rfl) ?_
          · have hi : i = 6 ∨ i = 7 ∨ i = 8 ∨ i = 9 := by omega
            rcases hi with rfl | rfl | rfl | rfl
            · exact g1
            · exact g2
            · exact g3
            · exact g4
          · refine bk_b (q := (57, [(0, .int p0), (1, .int p1), (2, .int p2)], [.int p2, .int p1])) tb_c_108_0 mx_108 2 rfl ?_
            by_cases g6 : p1 = p2
            · rw [if_pos g6] at h
              refine bk_jf tb_c_108_0 rfl (pc' := 60) rfl (t := 64) rfl (cm_ne_f g6) ?_
              refine bk_b (q := (65, [(0, .int p0), (1, .int p1), (2, .int p2)], [.int (1 : Int32)])) tb_c_108_0 mx_108 2 rfl ?_
              exact go_lv ls_nil (sn_Sp_signed_65 h)
            · rw [if_neg g6] at h
              refine bk_jt tb_c_108_0 rfl (pc' := 64) rfl (cm_ne_t g6) ?_
              refine bk_b (q := (65, [(0, .int p0), (1, .int p1), (2, .int p2)], [.int (0 : Int32)])) tb_c_108_0 mx_108 1 rfl ?_
              exact go_lv ls_nil (sn_Sp_signed_65 h)
theorem mx_107 : mi_mx tb_P 107 = 3 := rfl
noncomputable def fn_Runner_goOnSign_108 (S : wd_S) : Option wd_S :=
  some S
set_option maxRecDepth 100000 in
theorem sn_Runner_goOnSign_108 {L : Nat} {xs : Nat → Int32} {S : wd_S} {S' : wd_S} (h : fn_Runner_goOnSign_108  S = some S') : go_r tb_P L xs 2 107 108 [] [] (wd_k S) (.inl none, wd_k S') := by
  unfold fn_Runner_goOnSign_108 at h
  cases h
  exact bk_t tb_c_107_1 rfl rfl
/-- Specialiser$Runner.goOnSign(II)V -/
noncomputable def fn_Runner_goOnSign (p1 : Int32) (p2 : Int32) (S : wd_S) : Option wd_S :=
  (if p2 = 0 then
    (if tp_t (S.2.2.1 104 6) = (0, 8) then
      (wd_c (fn_Trees_part (S.2.2.1 104 6) p1 (0 : Int32) S) fun x31 S30 =>
      (wd_c (fn_Row_at 111 (S30.1 104 8) S30) fun x34 S33 =>
      (wd_d (fn_Runner_begin x31 x34 S33) fun S36 =>
      fn_Runner_goOnSign_108  S36)))
    else none)
  else
    (if p2 = (1 : Int32) then
      (wd_d (fn_Row_put 109 (S.1 104 8) (S.1 104 11) S) fun S16 =>
      (if tp_t (S16.2.2.1 104 6) = (0, 8) then
        (wd_c (fn_Trees_part (S16.2.2.1 104 6) p1 (1 : Int32) S16) fun x21 S20 =>
        (wd_c (fn_Row_at 111 (S20.1 104 8) S20) fun x24 S23 =>
        (wd_d (fn_Runner_begin x21 x24 S23) fun S26 =>
        fn_Runner_goOnSign_108  S26)))
      else none))
    else
      (if tp_t (S.2.2.1 104 6) = (0, 8) then
        (wd_c (fn_Trees_kind (S.2.2.1 104 6) p1 S) fun x5 S4 =>
        (wd_c (fn_Row_at 109 (S4.1 104 8) S4) fun x8 S7 =>
        (wd_c (fn_Sp_signed x5 x8 (S7.1 104 11) S7) fun x11 S10 =>
        (wd_d (fn_Runner_finish x11 S10) fun S13 =>
        fn_Runner_goOnSign_108  S13))))
      else none)))
set_option maxRecDepth 100000 in
theorem sn_Runner_goOnSign {L : Nat} {xs : Nat → Int32} {p1 : Int32} {p2 : Int32} {S : wd_S} {S' : wd_S} (h : fn_Runner_goOnSign p1 p2 S = some S') : ev_r tb_P L xs (2 + 1) 107 [.ref 104, .int p1, .int p2] (wd_k S) (.inl none, wd_k S') := by
  unfold fn_Runner_goOnSign at h
  refine ev_of (Nat.le_of_ble_eq_true rfl) ?_
  show go_r tb_P L xs 2 107 0 [(0, .ref 104), (1, .int p1), (2, .int p2)] [] (wd_k S) (.inl none, wd_k S')
  refine bk_b (q := (1, [(0, .ref 104), (1, .int p1), (2, .int p2)], [.int p2])) tb_c_107_0 mx_107 1 rfl ?_
  by_cases g1 : p2 = 0
  · rw [if_pos g1] at h
    refine bk_zf tb_c_107_0 rfl (pc' := 4) rfl (t := 31) rfl (cm_ne_f g1) ?_
    refine bk_b (q := (6, [(0, .ref 104), (1, .int p1), (2, .int p2)], [.ref 104, .ref 104])) tb_c_107_0 mx_107 2 rfl ?_
    refine bk_gm tb_c_107_0 rfl rfl (ci := 6) (k := 6) rfl rfl rfl ?_
    by_cases g29 : tp_t (S.2.2.1 104 6) = (0, 8)
    · rw [if_pos g29] at h
      refine bk_b (q := (11, [(0, .ref 104), (1, .int p1), (2, .int p2)], [.int (0 : Int32), .int p1, .ref (S.2.2.1 104 6), .ref 104])) tb_c_107_0 mx_107 2 rfl ?_
      obtain ⟨x31, S30, c32, h⟩ := wd_cx h
      refine bk_kv tb_c_107_0 rfl rfl rfl rfl rfl (ci := 8) g29 rfl (ev_up (Nat.le_of_ble_eq_true rfl) (sn_Trees_part g29 c32)) ?_
      refine bk_b (q := (15, [(0, .ref 104), (1, .int p1), (2, .int p2)], [.ref 104, .int x31, .ref 104])) tb_c_107_0 mx_107 1 rfl ?_
      refine bk_gc tb_c_107_0 rfl rfl (ci := 6) (k := 3) rfl rfl rfl ?_
      refine bk_b (q := (19, [(0, .ref 104), (1, .int p1), (2, .int p2)], [.ref 104, .ref 111, .int x31, .ref 104])) tb_c_107_0 mx_107 1 rfl ?_
      refine bk_gi tb_c_107_0 rfl rfl (ci := 6) (k := 8) rfl rfl rfl ?_
      obtain ⟨x34, S33, c35, h⟩ := wd_cx h
      refine bk_kv tb_c_107_0 rfl rfl rfl rfl rfl (ci := 5) rfl rfl (ev_up (Nat.le_of_ble_eq_true rfl) (sn_Row_at rfl c35)) ?_
      obtain ⟨S36, c38, h⟩ := wd_dx h
      refine bk_kv tb_c_107_0 rfl rfl rfl rfl rfl (ci := 6) rfl rfl (ev_up (Nat.le_of_ble_eq_true rfl) (sn_Runner_begin c38)) ?_
      refine bk_b (q := (108, [(0, .ref 104), (1, .int p1), (2, .int p2)], [])) tb_c_107_0 mx_107 1 rfl ?_
      exact go_lv ls_nil (sn_Runner_goOnSign_108 h)
    · rw [if_neg g29] at h; cases h
  · rw [if_neg g1] at h
    refine bk_zt tb_c_107_0 rfl (pc' := 31) rfl (cm_ne_t g1) ?_
    refine bk_b (q := (33, [(0, .ref 104), (1, .int p1), (2, .int p2)], [.int (1 : Int32), .int p2])) tb_c_107_0 mx_107 2 rfl ?_
    by_cases g2 : p2 = (1 : Int32)
    · rw [if_pos g2] at h
      refine bk_jf tb_c_107_0 rfl (pc' := 36) rfl (t := 78) rfl (cm_ne_f g2) ?_
      refine bk_b (q := (37, [(0, .ref 104), (1, .int p1), (2, .int p2)], [.ref 104])) tb_c_107_0 mx_107 1 rfl ?_
      refine bk_gc tb_c_107_0 rfl rfl (ci := 6) (k := 2) rfl rfl rfl ?_
      refine bk_b (q := (41, [(0, .ref 104), (1, .int p1), (2, .int p2)], [.ref 104, .ref 109])) tb_c_107_0 mx_107 1 rfl ?_
      refine bk_gi tb_c_107_0 rfl rfl (ci := 6) (k := 8) rfl rfl rfl ?_
      refine bk_b (q := (45, [(0, .ref 104), (1, .int p1), (2, .int p2)], [.ref 104, .int (S.1 104 8), .ref 109])) tb_c_107_0 mx_107 1 rfl ?_
      refine bk_gi tb_c_107_0 rfl rfl (ci := 6) (k := 11) rfl rfl rfl ?_
      obtain ⟨S16, c18, h⟩ := wd_dx h
      refine bk_kv tb_c_107_0 rfl rfl rfl rfl rfl (ci := 5) rfl rfl (ev_up (Nat.le_of_ble_eq_true rfl) (sn_Row_put rfl c18)) ?_
      refine bk_b (q := (53, [(0, .ref 104), (1, .int p1), (2, .int p2)], [.ref 104, .ref 104])) tb_c_107_0 mx_107 2 rfl ?_
      refine bk_gm tb_c_107_0 rfl rfl (ci := 6) (k := 6) rfl rfl rfl ?_
      by_cases g19 : tp_t (S16.2.2.1 104 6) = (0, 8)
      · rw [if_pos g19] at h
        refine bk_b (q := (58, [(0, .ref 104), (1, .int p1), (2, .int p2)], [.int (1 : Int32), .int p1, .ref (S16.2.2.1 104 6), .ref 104])) tb_c_107_0 mx_107 2 rfl ?_
        obtain ⟨x21, S20, c22, h⟩ := wd_cx h
        refine bk_kv tb_c_107_0 rfl rfl rfl rfl rfl (ci := 8) g19 rfl (ev_up (Nat.le_of_ble_eq_true rfl) (sn_Trees_part g19 c22)) ?_
        refine bk_b (q := (62, [(0, .ref 104), (1, .int p1), (2, .int p2)], [.ref 104, .int x21, .ref 104])) tb_c_107_0 mx_107 1 rfl ?_
        refine bk_gc tb_c_107_0 rfl rfl (ci := 6) (k := 3) rfl rfl rfl ?_
        refine bk_b (q := (66, [(0, .ref 104), (1, .int p1), (2, .int p2)], [.ref 104, .ref 111, .int x21, .ref 104])) tb_c_107_0 mx_107 1 rfl ?_
        refine bk_gi tb_c_107_0 rfl rfl (ci := 6) (k := 8) rfl rfl rfl ?_
        obtain ⟨x24, S23, c25, h⟩ := wd_cx h
        refine bk_kv tb_c_107_0 rfl rfl rfl rfl rfl (ci := 5) rfl rfl (ev_up (Nat.le_of_ble_eq_true rfl) (sn_Row_at rfl c25)) ?_
        obtain ⟨S26, c28, h⟩ := wd_dx h
        refine bk_kv tb_c_107_0 rfl rfl rfl rfl rfl (ci := 6) rfl rfl (ev_up (Nat.le_of_ble_eq_true rfl) (sn_Runner_begin c28)) ?_
        refine bk_b (q := (108, [(0, .ref 104), (1, .int p1), (2, .int p2)], [])) tb_c_107_0 mx_107 1 rfl ?_
        exact go_lv ls_nil (sn_Runner_goOnSign_108 h)
      · rw [if_neg g19] at h; cases h
    · rw [if_neg g2] at h
      refine bk_jt tb_c_107_0 rfl (pc' := 78) rfl (cm_ne_t g2) ?_
      refine bk_b (q := (80, [(0, .ref 104), (1, .int p1), (2, .int p2)], [.ref 104, .ref 104])) tb_c_107_0 mx_107 2 rfl ?_
      refine bk_gm tb_c_107_1 rfl rfl (ci := 6) (k := 6) rfl rfl rfl ?_
      by_cases g3 : tp_t (S.2.2.1 104 6) = (0, 8)
      · rw [if_pos g3] at h
        refine bk_b (q := (84, [(0, .ref 104), (1, .int p1), (2, .int p2)], [.int p1, .ref (S.2.2.1 104 6), .ref 104])) tb_c_107_1 mx_107 1 rfl ?_
        obtain ⟨x5, S4, c6, h⟩ := wd_cx h
        refine bk_kv tb_c_107_1 rfl rfl rfl rfl rfl (ci := 8) g3 rfl (ev_up (Nat.le_of_ble_eq_true rfl) (sn_Trees_kind g3 c6)) ?_
        refine bk_b (q := (88, [(0, .ref 104), (1, .int p1), (2, .int p2)], [.ref 104, .int x5, .ref 104])) tb_c_107_1 mx_107 1 rfl ?_
        refine bk_gc tb_c_107_1 rfl rfl (ci := 6) (k := 2) rfl rfl rfl ?_
        refine bk_b (q := (92, [(0, .ref 104), (1, .int p1), (2, .int p2)], [.ref 104, .ref 109, .int x5, .ref 104])) tb_c_107_1 mx_107 1 rfl ?_
        refine bk_gi tb_c_107_1 rfl rfl (ci := 6) (k := 8) rfl rfl rfl ?_
        obtain ⟨x8, S7, c9, h⟩ := wd_cx h
        refine bk_kv tb_c_107_1 rfl rfl rfl rfl rfl (ci := 5) rfl rfl (ev_up (Nat.le_of_ble_eq_true rfl) (sn_Row_at rfl c9)) ?_
        refine bk_b (q := (99, [(0, .ref 104), (1, .int p1), (2, .int p2)], [.ref 104, .int x8, .int x5, .ref 104])) tb_c_107_1 mx_107 1 rfl ?_
        refine bk_gi tb_c_107_1 rfl rfl (ci := 6) (k := 11) rfl rfl rfl ?_
        obtain ⟨x11, S10, c12, h⟩ := wd_cx h
        refine bk_ks tb_c_107_1 rfl rfl rfl (by decide) rfl rfl (ev_up (Nat.le_of_ble_eq_true rfl) (sn_Sp_signed c12)) ?_
        obtain ⟨S13, c15, h⟩ := wd_dx h
        refine bk_kv tb_c_107_1 rfl rfl rfl rfl rfl (ci := 6) rfl rfl (ev_up (Nat.le_of_ble_eq_true rfl) (sn_Runner_finish c15)) ?_
        exact go_lv ls_nil (sn_Runner_goOnSign_108 h)
      · rw [if_neg g3] at h; cases h
theorem mx_100 : mi_mx tb_P 100 = 8 := rfl
noncomputable def fn_Runner_work_270 (S : wd_S) : Option (Int32 × wd_S) :=
  some (S.1 104 12, S)
set_option maxRecDepth 100000 in
theorem sn_Runner_work_270 {L : Nat} {xs : Nat → Int32} {S : wd_S} {x : Int32} {S' : wd_S} (h : fn_Runner_work_270  S = some (x, S')) : go_r tb_P L xs 3 100 270 [(0, .ref 104)] [] (wd_k S) (.inl (some (.int x)), wd_k S') := by
  unfold fn_Runner_work_270 at h
  refine bk_b (q := (271, [(0, .ref 104)], [.ref 104])) tb_c_100_2 mx_100 1 rfl ?_
  refine bk_gi tb_c_100_2 rfl rfl (ci := 6) (k := 12) rfl rfl rfl ?_
  cases h
  exact bk_t tb_c_100_2 rfl rfl
noncomputable def fn_Runner_work_264 (kk82 : Int32 → wd_S → Option (Int32 × wd_S)) (l5 : Int32) (S : wd_S) : Option (Int32 × wd_S) :=
  kk82 (l5 + (1 : Int32)) S
set_option maxRecDepth 100000 in
theorem sn_Runner_work_264 {L : Nat} {xs : Nat → Int32} {kk82 : Int32 → wd_S → Option (Int32 × wd_S)} (hk82 : ∀ {l5 : Int32} {S : wd_S} {x : Int32} {S' : wd_S}, kk82 l5 S = some (x, S') → go_r tb_P L xs 3 100 82 [(0, .ref 104), (5, .int l5)] [] (wd_k S) (.inl (some (.int x)), wd_k S')) {l5 : Int32} {S : wd_S} {x : Int32} {S' : wd_S} (h : fn_Runner_work_264 kk82 l5 S = some (x, S')) : go_r tb_P L xs 3 100 264 [(0, .ref 104), (5, .int l5)] [] (wd_k S) (.inl (some (.int x)), wd_k S') := by
  unfold fn_Runner_work_264 at h
  refine bk_b (q := (82, [(5, .int (l5 + (1 : Int32))), (0, .ref 104)], [])) tb_c_100_2 mx_100 2 rfl ?_
  exact go_lv (ls_sc rfl rfl (ls_sc rfl rfl ls_nil)) (hk82 h)
noncomputable def fn_Runner_work_82 : Nat → Int32 → wd_S → Option (Int32 × wd_S)
  | 0, _, _ => none
  | n + 1, l5, S =>
    (if l5 < (40000 : Int32) then
      (if (S.1 104 12) = 0 then
        (wd_c (fn_Row_at 105 (S.1 104 8) S) fun x22 S21 =>
        (wd_c (fn_Row_at 107 (S21.1 104 8) S21) fun x25 S24 =>
        (wd_d (fn_Row_put 107 (S24.1 104 8) (x25 + (1 : Int32)) S24) fun S27 =>
        (if tp_t (S27.2.2.1 104 6) = (0, 8) then
          (wd_c (fn_Trees_kind (S27.2.2.1 104 6) x22 S27) fun x32 S31 =>
          (if x32 = (1 : Int32) then
            (if tp_t (S31.2.2.1 104 6) = (0, 8) then
              (wd_c (fn_Trees_value (S31.2.2.1 104 6) x22 S31) fun x37 S36 =>
              (wd_d (fn_Runner_finish x37 S36) fun S39 =>
              fn_Runner_work_264 (fn_Runner_work_82 n) l5 S39))
            else none)
          else
          (if x32 = (2 : Int32) then
            (if tp_t (S31.2.2.1 104 6) = (0, 8) then
              (wd_c (fn_Trees_value (S31.2.2.1 104 6) x22 S31) fun x45 S44 =>
              (wd_c (fn_Runner_slot x45 S44) fun x48 S47 =>
              (wd_c (fn_Row_at 113 x48 S47) fun x51 S50 =>
              (wd_d (fn_Runner_finish x51 S50) fun S53 =>
              fn_Runner_work_264 (fn_Runner_work_82 n) l5 S53))))
            else none)
          else
          (if x32 = (3 : Int32) then
            (wd_d (fn_Runner_goOnLet x22 x25 S31) fun S57 =>
            fn_Runner_work_264 (fn_Runner_work_82 n) l5 S57)
          else
          (if x32 = (4 : Int32) then
            (wd_d (fn_Runner_goOnIf x22 x25 S31) fun S61 =>
            fn_Runner_work_264 (fn_Runner_work_82 n) l5 S61)
          else
          (if x32 = (5 : Int32) then
            (wd_d (fn_Runner_goOnCall x22 x25 S31) fun S65 =>
            fn_Runner_work_264 (fn_Runner_work_82 n) l5 S65)
          else
          (wd_d (fn_Runner_goOnSign x22 x25 S31) fun S68 =>
          fn_Runner_work_264 (fn_Runner_work_82 n) l5 S68)))))))
        else none))))
      else
        fn_Runner_work_270  S)
    else
      fn_Runner_work_270  S)
set_option maxRecDepth 100000 in
theorem sn_Runner_work_82 {L : Nat} {xs : Nat → Int32} : ∀ (n : Nat) {l5 : Int32} {S : wd_S} {x : Int32} {S' : wd_S}, fn_Runner_work_82 n l5 S = some (x, S') → go_r tb_P L xs 3 100 82 [(0, .ref 104), (5, .int l5)] [] (wd_k S) (.inl (some (.int x)), wd_k S') := by
  intro n
  induction n with
  | zero => intro l5 S x S'  h; cases h
  | succ n ih =>
    intro l5 S x S'  h
    rw [fn_Runner_work_82] at h
    refine bk_b (q := (84, [(0, .ref 104), (5, .int l5)], [.int l5])) tb_c_100_1 mx_100 1 rfl ?_
    refine bk_c4 tb_c_100_1 rfl rfl (x := (40000 : Int32)) rfl ?_
    by_cases g19 : l5 < (40000 : Int32)
    · rw [if_pos g19] at h
      refine bk_jf tb_c_100_1 rfl (pc' := 89) rfl (t := 270) rfl (cm_ge_f g19) ?_
      refine bk_b (q := (90, [(0, .ref 104), (5, .int l5)], [.ref 104])) tb_c_100_1 mx_100 1 rfl ?_
      refine bk_gi tb_c_100_1 rfl rfl (ci := 6) (k := 12) rfl rfl rfl ?_
      by_cases g20 : (S.1 104 12) = 0
      · rw [if_pos g20] at h
        refine bk_zf tb_c_100_1 rfl (pc' := 96) rfl (t := 270) rfl (cm_ne_f g20) ?_
        refine bk_b (q := (97, [(0, .ref 104), (5, .int l5)], [.ref 104])) tb_c_100_1 mx_100 1 rfl ?_
        refine bk_gc tb_c_100_1 rfl rfl (ci := 6) (k := 0) rfl rfl rfl ?_
        refine bk_b (q := (101, [(0, .ref 104), (5, .int l5)], [.ref 104, .ref 105])) tb_c_100_1 mx_100 1 rfl ?_
        refine bk_gi tb_c_100_1 rfl rfl (ci := 6) (k := 8) rfl rfl rfl ?_
        obtain ⟨x22, S21, c23, h⟩ := wd_cx h
        refine bk_kv tb_c_100_1 rfl rfl rfl rfl rfl (ci := 5) rfl rfl (ev_up (Nat.le_of_ble_eq_true rfl) (sn_Row_at rfl c23)) ?_
        refine bk_b (q := (110, [(6, .int x22), (0, .ref 104), (5, .int l5)], [.ref 104])) tb_c_100_1 mx_100 2 rfl ?_
        refine bk_gc tb_c_100_1 rfl rfl (ci := 6) (k := 1) rfl rfl rfl ?_
        refine bk_b (q := (114, [(6, .int x22), (0, .ref 104), (5, .int l5)], [.ref 104, .ref 107])) tb_c_100_1 mx_100 1 rfl ?_
        refine bk_gi tb_c_100_1 rfl rfl (ci := 6) (k := 8) rfl rfl rfl ?_
        obtain ⟨x25, S24, c26, h⟩ := wd_cx h
        refine bk_kv tb_c_100_1 rfl rfl rfl rfl rfl (ci := 5) rfl rfl (ev_up (Nat.le_of_ble_eq_true rfl) (sn_Row_at rfl c26)) ?_
        refine bk_b (q := (123, [(7, .int x25), (6, .int x22), (0, .ref 104), (5, .int l5)], [.ref 104])) tb_c_100_1 mx_100 2 rfl ?_
        refine bk_gc tb_c_100_1 rfl rfl (ci := 6) (k := 1) rfl rfl rfl ?_
        refine bk_b (q := (127, [(7, .int x25), (6, .int x22), (0, .ref 104), (5, .int l5)], [.ref 104, .ref 107])) tb_c_100_1 mx_100 1 rfl ?_
        refine bk_gi tb_c_100_1 rfl rfl (ci := 6) (k := 8) rfl rfl rfl ?_
        refine bk_b (q := (134, [(7, .int x25), (6, .int x22), (0, .ref 104), (5, .int l5)], [.int (x25 + (1 : Int32)), .int (S24.1 104 8), .ref 107])) tb_c_100_1 mx_100 3 rfl ?_
        obtain ⟨S27, c29, h⟩ := wd_dx h
        refine bk_kv tb_c_100_1 rfl rfl rfl rfl rfl (ci := 5) rfl rfl (ev_up (Nat.le_of_ble_eq_true rfl) (sn_Row_put rfl c29)) ?_
        refine bk_b (q := (138, [(7, .int x25), (6, .int x22), (0, .ref 104), (5, .int l5)], [.ref 104])) tb_c_100_1 mx_100 1 rfl ?_
        refine bk_gm tb_c_100_1 rfl rfl (ci := 6) (k := 6) rfl rfl rfl ?_
        by_cases g30 : tp_t (S27.2.2.1 104 6) = (0, 8)
        · rw [if_pos g30] at h
          refine bk_b (q := (143, [(7, .int x25), (6, .int x22), (0, .ref 104), (5, .int l5)], [.int x22, .ref (S27.2.2.1 104 6)])) tb_c_100_1 mx_100 1 rfl ?_
          obtain ⟨x32, S31, c33, h⟩ := wd_cx h
          refine bk_kv tb_c_100_1 rfl rfl rfl rfl rfl (ci := 8) g30 rfl (ev_up (Nat.le_of_ble_eq_true rfl) (sn_Trees_kind g30 c33)) ?_
          by_cases g34 : x32 = (1 : Int32)
          · rw [if_pos g34] at h
            refine bk_sw tb_c_100_1 rfl (pc' := 180) (by rw [g34]; rfl) ?_
            refine bk_b (q := (182, [(7, .int x25), (6, .int x22), (0, .ref 104), (5, .int l5)], [.ref 104, .ref 104])) tb_c_100_1 mx_100 2 rfl ?_
            refine bk_gm tb_c_100_1 rfl rfl (ci := 6) (k := 6) rfl rfl rfl ?_
            by_cases g35 : tp_t (S31.2.2.1 104 6) = (0, 8)
            · rw [if_pos g35] at h
              refine bk_b (q := (187, [(7, .int x25), (6, .int x22), (0, .ref 104), (5, .int l5)], [.int x22, .ref (S31.2.2.1 104 6), .ref 104])) tb_c_100_1 mx_100 1 rfl ?_
              obtain ⟨x37, S36, c38, h⟩ := wd_cx h
              refine bk_kv tb_c_100_1 rfl rfl rfl rfl rfl (ci := 8) g35 rfl (ev_up (Nat.le_of_ble_eq_true rfl) (sn_Trees_value g35 c38)) ?_
              obtain ⟨S39, c41, h⟩ := wd_dx h
              refine bk_kv tb_c_100_2 rfl rfl rfl rfl rfl (ci := 6) rfl rfl (ev_up (Nat.le_of_ble_eq_true rfl) (sn_Runner_finish c41)) ?_
              refine bk_b (q := (264, [(7, .int x25), (6, .int x22), (0, .ref 104), (5, .int l5)], [])) tb_c_100_2 mx_100 1 rfl ?_
              exact go_lv (ls_sc rfl rfl (ls_sc rfl rfl ls_nil)) (sn_Runner_work_264 ih h)
            · rw [if_neg g35] at h; cases h
          · rw [if_neg g34] at h
            by_cases g42 : x32 = (2 : Int32)
            · rw [if_pos g42] at h
              refine bk_sw tb_c_100_1 rfl (pc' := 196) (by rw [g42]; rfl) ?_
              refine bk_b (q := (198, [(7, .int x25), (6, .int x22), (0, .ref 104), (5, .int l5)], [.ref 104, .ref 104])) tb_c_100_2 mx_100 2 rfl ?_
              refine bk_gc tb_c_100_2 rfl rfl (ci := 6) (k := 4) rfl rfl rfl ?_
              refine bk_b (q := (203, [(7, .int x25), (6, .int x22), (0, .ref 104), (5, .int l5)], [.ref 104, .ref 104, .ref 113, .ref 104])) tb_c_100_2 mx_100 2 rfl ?_
              refine bk_gm tb_c_100_2 rfl rfl (ci := 6) (k := 6) rfl rfl rfl ?_
              by_cases g43 : tp_t (S31.2.2.1 104 6) = (0, 8)
              · rw [if_pos g43] at h
                refine bk_b (q := (208, [(7, .int x25), (6, .int x22), (0, .ref 104), (5, .int l5)], [.int x22, .ref (S31.2.2.1 104 6), .ref 104, .ref 113, .ref 104])) tb_c_100_2 mx_100 1 rfl ?_
                obtain ⟨x45, S44, c46, h⟩ := wd_cx h
                refine bk_kv tb_c_100_2 rfl rfl rfl rfl rfl (ci := 8) g43 rfl (ev_up (Nat.le_of_ble_eq_true rfl) (sn_Trees_value g43 c46)) ?_
                obtain ⟨x48, S47, c49, h⟩ := wd_cx h
                refine bk_kv tb_c_100_2 rfl rfl rfl rfl rfl (ci := 6) rfl rfl (ev_up (Nat.le_of_ble_eq_true rfl) (sn_Runner_slot c49)) ?_
                obtain ⟨x51, S50, c52, h⟩ := wd_cx h
                refine bk_kv tb_c_100_2 rfl rfl rfl rfl rfl (ci := 5) rfl rfl (ev_up (Nat.le_of_ble_eq_true rfl) (sn_Row_at rfl c52)) ?_
                obtain ⟨S53, c55, h⟩ := wd_dx h
                refine bk_kv tb_c_100_2 rfl rfl rfl rfl rfl (ci := 6) rfl rfl (ev_up (Nat.le_of_ble_eq_true rfl) (sn_Runner_finish c55)) ?_
                refine bk_b (q := (264, [(7, .int x25), (6, .int x22), (0, .ref 104), (5, .int l5)], [])) tb_c_100_2 mx_100 1 rfl ?_
                exact go_lv (ls_sc rfl rfl (ls_sc rfl rfl ls_nil)) (sn_Runner_work_264 ih h)
              · rw [if_neg g43] at h; cases h
            · rw [if_neg g42] at h
              by_cases g56 : x32 = (3 : Int32)
              · rw [if_pos g56] at h
                refine bk_sw tb_c_100_1 rfl (pc' := 223) (by rw [g56]; rfl) ?_
                refine bk_b (q := (228, [(7, .int x25), (6, .int x22), (0, .ref 104), (5, .int l5)], [.int x25, .int x22, .ref 104])) tb_c_100_2 mx_100 3 rfl ?_
                obtain ⟨S57, c59, h⟩ := wd_dx h
                refine bk_kv tb_c_100_2 rfl rfl rfl rfl rfl (ci := 6) rfl rfl (ev_up (Nat.le_of_ble_eq_true rfl) (sn_Runner_goOnLet c59)) ?_
                refine bk_b (q := (264, [(7, .int x25), (6, .int x22), (0, .ref 104), (5, .int l5)], [])) tb_c_100_2 mx_100 1 rfl ?_
                exact go_lv (ls_sc rfl rfl (ls_sc rfl rfl ls_nil)) (sn_Runner_work_264 ih h)
              · rw [if_neg g56] at h
                by_cases g60 : x32 = (4 : Int32)
                · rw [if_pos g60] at h
                  refine bk_sw tb_c_100_1 rfl (pc' := 234) (by rw [g60]; rfl) ?_
                  refine bk_b (q := (239, [(7, .int x25), (6, .int x22), (0, .ref 104), (5, .int l5)], [.int x25, .int x22, .ref 104])) tb_c_100_2 mx_100 3 rfl ?_
                  obtain ⟨S61, c63, h⟩ := wd_dx h
                  refine bk_kv tb_c_100_2 rfl rfl rfl rfl rfl (ci := 6) rfl rfl (ev_up (Nat.le_of_ble_eq_true rfl) (sn_Runner_goOnIf c63)) ?_
                  refine bk_b (q := (264, [(7, .int x25), (6, .int x22), (0, .ref 104), (5, .int l5)], [])) tb_c_100_2 mx_100 1 rfl ?_
                  exact go_lv (ls_sc rfl rfl (ls_sc rfl rfl ls_nil)) (sn_Runner_work_264 ih h)
                · rw [if_neg g60] at h
                  by_cases g64 : x32 = (5 : Int32)
                  · rw [if_pos g64] at h
                    refine bk_sw tb_c_100_1 rfl (pc' := 245) (by rw [g64]; rfl) ?_
                    refine bk_b (q := (250, [(7, .int x25), (6, .int x22), (0, .ref 104), (5, .int l5)], [.int x25, .int x22, .ref 104])) tb_c_100_2 mx_100 3 rfl ?_
                    obtain ⟨S65, c67, h⟩ := wd_dx h
                    refine bk_kv tb_c_100_2 rfl rfl rfl rfl rfl (ci := 6) rfl rfl (ev_up (Nat.le_of_ble_eq_true rfl) (sn_Runner_goOnCall c67)) ?_
                    refine bk_b (q := (264, [(7, .int x25), (6, .int x22), (0, .ref 104), (5, .int l5)], [])) tb_c_100_2 mx_100 1 rfl ?_
                    exact go_lv (ls_sc rfl rfl (ls_sc rfl rfl ls_nil)) (sn_Runner_work_264 ih h)
                  · rw [if_neg g64] at h
                    refine bk_sw tb_c_100_1 rfl (pc' := 256) (sw_t (t := 256) (fun i h1 h2 => ?_) rfl) ?_
                    · have hi : i = 1 ∨ i = 2 ∨ i = 3 ∨ i = 4 ∨ i = 5 := by omega
                      rcases hi with rfl | rfl | rfl | rfl | rfl
                      · exact g34
                      · exact g42
                      · exact g56
                      · exact g60
                      · exact g64
                    · refine bk_b (q := (261, [(7, .int x25), (6, .int x22), (0, .ref 104), (5, .int l5)], [.int x25, .int x22, .ref 104])) tb_c_100_2 mx_100 3 rfl ?_
                      obtain ⟨S68, c70, h⟩ := wd_dx h
                      refine bk_kv tb_c_100_2 rfl rfl rfl rfl rfl (ci := 6) rfl rfl (ev_up (Nat.le_of_ble_eq_true rfl) (sn_Runner_goOnSign c70)) ?_
                      exact go_lv (ls_sc rfl rfl (ls_sc rfl rfl ls_nil)) (sn_Runner_work_264 ih h)
        · rw [if_neg g30] at h; cases h
      · rw [if_neg g20] at h
        refine bk_zt tb_c_100_1 rfl (pc' := 270) rfl (cm_ne_t g20) ?_
        exact go_lv (ls_sc rfl rfl ls_nil) (sn_Runner_work_270 h)
    · rw [if_neg g19] at h
      refine bk_jt tb_c_100_1 rfl (pc' := 270) rfl (cm_ge_t g19) ?_
      exact go_lv (ls_sc rfl rfl ls_nil) (sn_Runner_work_270 h)
noncomputable def fn_Runner_work_42 : Nat → Nat → Int32 → Nat → Int32 → wd_S → Option (Int32 × wd_S)
  | 0, _, _, _, _, _ => none
  | n + 1, l1, l2, l3, l5, S =>
    (if l5 < (4 : Int32) then
      (wd_c (fn_Row_at l3 l5 S) fun x72 S71 =>
      (wd_d (fn_Row_put 113 l5 x72 S71) fun S74 =>
      fn_Runner_work_42 n l1 l2 l3 (l5 + (1 : Int32)) S74))
    else
      (wd_c (fn_Bodies_root l1 l2 S) fun x14 S13 =>
      (wd_d (fn_Runner_begin x14 (0 : Int32) S13) fun S16 =>
      fn_Runner_work_82 wd_F (0 : Int32) S16)))
set_option maxRecDepth 100000 in
theorem sn_Runner_work_42 {L : Nat} {xs : Nat → Int32} : ∀ (n : Nat) {l1 : Nat} {l2 : Int32} {l3 : Nat} {l5 : Int32} {S : wd_S} {x : Int32} {S' : wd_S}, tp_t l1 = (0, 0) → tp_t l3 = (0, 5) → fn_Runner_work_42 n l1 l2 l3 l5 S = some (x, S') → go_r tb_P L xs 3 100 42 [(0, .ref 104), (1, .ref l1), (2, .int l2), (3, .ref l3), (5, .int l5)] [] (wd_k S) (.inl (some (.int x)), wd_k S') := by
  intro n
  induction n with
  | zero => intro l1 l2 l3 l5 S x S' hl1 hl3 h; cases h
  | succ n ih =>
    intro l1 l2 l3 l5 S x S' hl1 hl3 h
    rw [fn_Runner_work_42] at h
    refine bk_b (q := (45, [(0, .ref 104), (1, .ref l1), (2, .int l2), (3, .ref l3), (5, .int l5)], [.int (4 : Int32), .int l5])) tb_c_100_0 mx_100 2 rfl ?_
    by_cases g12 : l5 < (4 : Int32)
    · rw [if_pos g12] at h
      refine bk_jf tb_c_100_0 rfl (pc' := 48) rfl (t := 69) rfl (cm_ge_f g12) ?_
      refine bk_b (q := (49, [(0, .ref 104), (1, .ref l1), (2, .int l2), (3, .ref l3), (5, .int l5)], [.ref 104])) tb_c_100_0 mx_100 1 rfl ?_
      refine bk_gc tb_c_100_0 rfl rfl (ci := 6) (k := 4) rfl rfl rfl ?_
      refine bk_b (q := (57, [(0, .ref 104), (1, .ref l1), (2, .int l2), (3, .ref l3), (5, .int l5)], [.int l5, .ref l3, .int l5, .ref 113])) tb_c_100_0 mx_100 3 rfl ?_
      obtain ⟨x72, S71, c73, h⟩ := wd_cx h
      refine bk_kv tb_c_100_0 rfl rfl rfl rfl rfl (ci := 5) hl3 rfl (ev_up (Nat.le_of_ble_eq_true rfl) (sn_Row_at hl3 c73)) ?_
      obtain ⟨S74, c76, h⟩ := wd_dx h
      refine bk_kv tb_c_100_0 rfl rfl rfl rfl rfl (ci := 5) rfl rfl (ev_up (Nat.le_of_ble_eq_true rfl) (sn_Row_put rfl c76)) ?_
      refine bk_b (q := (42, [(5, .int (l5 + (1 : Int32))), (0, .ref 104), (1, .ref l1), (2, .int l2), (3, .ref l3)], [])) tb_c_100_0 mx_100 2 rfl ?_
      exact go_lv (ls_sc rfl rfl (ls_sc rfl rfl (ls_sc rfl rfl (ls_sc rfl rfl (ls_sc rfl rfl ls_nil))))) (ih hl1 hl3 h)
    · rw [if_neg g12] at h
      refine bk_jt tb_c_100_0 rfl (pc' := 69) rfl (cm_ge_t g12) ?_
      refine bk_b (q := (72, [(0, .ref 104), (1, .ref l1), (2, .int l2), (3, .ref l3), (5, .int l5)], [.int l2, .ref l1, .ref 104])) tb_c_100_0 mx_100 3 rfl ?_
      obtain ⟨x14, S13, c15, h⟩ := wd_cx h
      refine bk_kv tb_c_100_0 rfl rfl rfl rfl rfl (ci := 0) hl1 rfl (ev_up (Nat.le_of_ble_eq_true rfl) (sn_Bodies_root hl1 c15)) ?_
      refine bk_b (q := (76, [(0, .ref 104), (1, .ref l1), (2, .int l2), (3, .ref l3), (5, .int l5)], [.int (0 : Int32), .int x14, .ref 104])) tb_c_100_1 mx_100 1 rfl ?_
      obtain ⟨S16, c18, h⟩ := wd_dx h
      refine bk_kv tb_c_100_1 rfl rfl rfl rfl rfl (ci := 6) rfl rfl (ev_up (Nat.le_of_ble_eq_true rfl) (sn_Runner_begin c18)) ?_
      refine bk_b (q := (82, [(5, .int (0 : Int32)), (0, .ref 104), (1, .ref l1), (2, .int l2), (3, .ref l3)], [])) tb_c_100_1 mx_100 2 rfl ?_
      exact go_lv (ls_sc rfl rfl (ls_sc rfl rfl ls_nil)) (sn_Runner_work_82 wd_F h)
/-- Specialiser$Runner.work(LSpecialiser$Bodies;ILSpecialiser$Row;I)I -/
noncomputable def fn_Runner_work (p1 : Nat) (p2 : Int32) (p3 : Nat) (p4 : Int32) (S : wd_S) : Option (Int32 × wd_S) :=
  (wd_b (wd_r S 104 5 p1) fun S1 =>
  (wd_c (fn_Bodies_trees p1 S1) fun x3 S2 => if tp_t x3 = (0, 8) then
    (wd_b (wd_r S2 104 6 x3) fun S6 =>
    (wd_b (wd_i S6 104 7 p4) fun S7 =>
    (wd_b (wd_i S7 104 8 (0 : Int32)) fun S8 =>
    (wd_b (wd_i S8 104 9 (0 : Int32)) fun S9 =>
    (wd_b (wd_i S9 104 10 (0 : Int32)) fun S10 =>
    (wd_b (wd_i S10 104 12 (0 : Int32)) fun S11 =>
    fn_Runner_work_42 wd_F p1 p2 p3 (0 : Int32) S11))))))
  else none))
set_option maxRecDepth 100000 in
theorem sn_Runner_work {L : Nat} {xs : Nat → Int32} {p1 : Nat} {p2 : Int32} {p3 : Nat} {p4 : Int32} {S : wd_S} {x : Int32} {S' : wd_S} (hp1 : tp_t p1 = (0, 0)) (hp3 : tp_t p3 = (0, 5)) (h : fn_Runner_work p1 p2 p3 p4 S = some (x, S')) : ev_r tb_P L xs (3 + 1) 100 [.ref 104, .ref p1, .int p2, .ref p3, .int p4] (wd_k S) (.inl (some (.int x)), wd_k S') := by
  unfold fn_Runner_work at h
  refine ev_of (Nat.le_of_ble_eq_true rfl) ?_
  show go_r tb_P L xs 3 100 0 [(0, .ref 104), (1, .ref p1), (2, .int p2), (3, .ref p3), (4, .int p4)] [] (wd_k S) (.inl (some (.int x)), wd_k S')
  refine bk_b (q := (2, [(0, .ref 104), (1, .ref p1), (2, .int p2), (3, .ref p3), (4, .int p4)], [.ref p1, .ref 104])) tb_c_100_0 mx_100 2 rfl ?_
  obtain ⟨S1, eS1, h⟩ := wd_bx h
  refine bk_pr tb_c_100_0 rfl rfl (ci := 6) (k := 5) rfl rfl rfl rfl ?_
  rw [eS1]
  refine bk_b (q := (7, [(0, .ref 104), (1, .ref p1), (2, .int p2), (3, .ref p3), (4, .int p4)], [.ref p1, .ref 104])) tb_c_100_0 mx_100 2 rfl ?_
  obtain ⟨x3, S2, c4, h⟩ := wd_cx h
  by_cases g5 : tp_t x3 = (0, 8)
  · rw [if_pos g5] at h
    refine bk_kv tb_c_100_0 rfl rfl rfl rfl rfl (ci := 0) hp1 rfl (ev_up (Nat.le_of_ble_eq_true rfl) (sn_Bodies_trees hp1 c4)) ?_
    obtain ⟨S6, eS6, h⟩ := wd_bx h
    refine bk_pr tb_c_100_0 rfl rfl (ci := 6) (k := 6) rfl rfl rfl rfl ?_
    rw [eS6]
    refine bk_b (q := (16, [(0, .ref 104), (1, .ref p1), (2, .int p2), (3, .ref p3), (4, .int p4)], [.int p4, .ref 104])) tb_c_100_0 mx_100 2 rfl ?_
    obtain ⟨S7, eS7, h⟩ := wd_bx h
    refine bk_pi tb_c_100_0 rfl rfl (ci := 6) (k := 7) rfl rfl rfl rfl ?_
    rw [eS7]
    refine bk_b (q := (21, [(0, .ref 104), (1, .ref p1), (2, .int p2), (3, .ref p3), (4, .int p4)], [.int (0 : Int32), .ref 104])) tb_c_100_0 mx_100 2 rfl ?_
    obtain ⟨S8, eS8, h⟩ := wd_bx h
    refine bk_pi tb_c_100_0 rfl rfl (ci := 6) (k := 8) rfl rfl rfl rfl ?_
    rw [eS8]
    refine bk_b (q := (26, [(0, .ref 104), (1, .ref p1), (2, .int p2), (3, .ref p3), (4, .int p4)], [.int (0 : Int32), .ref 104])) tb_c_100_0 mx_100 2 rfl ?_
    obtain ⟨S9, eS9, h⟩ := wd_bx h
    refine bk_pi tb_c_100_0 rfl rfl (ci := 6) (k := 9) rfl rfl rfl rfl ?_
    rw [eS9]
    refine bk_b (q := (31, [(0, .ref 104), (1, .ref p1), (2, .int p2), (3, .ref p3), (4, .int p4)], [.int (0 : Int32), .ref 104])) tb_c_100_0 mx_100 2 rfl ?_
    obtain ⟨S10, eS10, h⟩ := wd_bx h
    refine bk_pi tb_c_100_0 rfl rfl (ci := 6) (k := 10) rfl rfl rfl rfl ?_
    rw [eS10]
    refine bk_b (q := (36, [(0, .ref 104), (1, .ref p1), (2, .int p2), (3, .ref p3), (4, .int p4)], [.int (0 : Int32), .ref 104])) tb_c_100_0 mx_100 2 rfl ?_
    obtain ⟨S11, eS11, h⟩ := wd_bx h
    refine bk_pi tb_c_100_0 rfl rfl (ci := 6) (k := 12) rfl rfl rfl rfl ?_
    rw [eS11]
    refine bk_b (q := (42, [(5, .int (0 : Int32)), (0, .ref 104), (1, .ref p1), (2, .int p2), (3, .ref p3), (4, .int p4)], [])) tb_c_100_0 mx_100 2 rfl ?_
    exact go_lv (ls_sc rfl rfl (ls_sc rfl rfl (ls_sc rfl rfl (ls_sc rfl rfl (ls_sc rfl rfl ls_nil))))) (sn_Runner_work_42 wd_F hp1 hp3 h)
  · rw [if_neg g5] at h; cases h
