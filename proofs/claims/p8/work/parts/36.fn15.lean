/-! Methods as functions: printed by wip/whole/gen_fn.py. -/
theorem mx_169 : mi_mx tb_P 169 = 2 := rfl
noncomputable def fn_Mo_keep_30 (S : wd_S) : Option wd_S :=
  some S
set_option maxRecDepth 100000 in
theorem sn_Mo_keep_30 {L : Nat} {xs : Nat → Int32} {S : wd_S} {S' : wd_S} (h : fn_Mo_keep_30  S = some S') : go_r tb_P L xs 0 169 30 [] [] (wd_k S) (.inl none, wd_k S') := by
  unfold fn_Mo_keep_30 at h
  cases h
  exact bk_t tb_c_169_0 rfl rfl
/-- SpecialiserModel.keep(I)V -/
noncomputable def fn_Mo_keep (p1 : Int32) (S : wd_S) : Option wd_S :=
  (if (S.1 135 37) < (1600 : Int32) then
    (if (S.1 135 37) < 0 ∨ 1600 ≤ (S.1 135 37).toNatClampNeg then none else
    (wd_b (wd_i S 155 (S.1 135 37).toNatClampNeg p1) fun S3 =>
    (wd_b (wd_i S3 135 37 ((S3.1 135 37) + (1 : Int32))) fun S4 =>
    fn_Mo_keep_30  S4)))
  else
    fn_Mo_keep_30  S)
set_option maxRecDepth 100000 in
theorem sn_Mo_keep {L : Nat} {xs : Nat → Int32} {p1 : Int32} {S : wd_S} {S' : wd_S} (h : fn_Mo_keep p1 S = some S') : ev_r tb_P L xs (0 + 1) 169 [.ref 135, .int p1] (wd_k S) (.inl none, wd_k S') := by
  unfold fn_Mo_keep at h
  refine ev_of (Nat.le_of_ble_eq_true rfl) ?_
  show go_r tb_P L xs 0 169 0 [(0, .ref 135), (1, .int p1)] [] (wd_k S) (.inl none, wd_k S')
  refine bk_b (q := (1, [(0, .ref 135), (1, .int p1)], [.ref 135])) tb_c_169_0 mx_169 1 rfl ?_
  refine bk_gi tb_c_169_0 rfl rfl (ci := 11) (k := 37) rfl rfl rfl ?_
  refine bk_b (q := (7, [(0, .ref 135), (1, .int p1)], [.int (1600 : Int32), .int (S.1 135 37)])) tb_c_169_0 mx_169 1 rfl ?_
  by_cases g1 : (S.1 135 37) < (1600 : Int32)
  · rw [if_pos g1] at h
    refine bk_jf tb_c_169_0 rfl (pc' := 10) rfl (t := 30) rfl (cm_ge_f g1) ?_
    refine bk_b (q := (11, [(0, .ref 135), (1, .int p1)], [.ref 135])) tb_c_169_0 mx_169 1 rfl ?_
    refine bk_gc tb_c_169_0 rfl rfl (ci := 11) (k := 36) rfl rfl rfl ?_
    refine bk_b (q := (15, [(0, .ref 135), (1, .int p1)], [.ref 135, .ref 155])) tb_c_169_0 mx_169 1 rfl ?_
    refine bk_gi tb_c_169_0 rfl rfl (ci := 11) (k := 37) rfl rfl rfl ?_
    refine bk_b (q := (19, [(0, .ref 135), (1, .int p1)], [.int p1, .int (S.1 135 37), .ref 155])) tb_c_169_0 mx_169 1 rfl ?_
    by_cases g2 : (S.1 135 37) < 0 ∨ 1600 ≤ (S.1 135 37).toNatClampNeg
    · rw [if_pos g2] at h; cases h
    · rw [if_neg g2] at h
      obtain ⟨S3, eS3, h⟩ := wd_bx h
      refine bk_s4 tb_c_169_0 rfl rfl rfl g2 ?_
      rw [eS3]
      refine bk_b (q := (22, [(0, .ref 135), (1, .int p1)], [.ref 135, .ref 135])) tb_c_169_0 mx_169 2 rfl ?_
      refine bk_gi tb_c_169_0 rfl rfl (ci := 11) (k := 37) rfl rfl rfl ?_
      refine bk_b (q := (27, [(0, .ref 135), (1, .int p1)], [.int ((S3.1 135 37) + (1 : Int32)), .ref 135])) tb_c_169_0 mx_169 2 rfl ?_
      obtain ⟨S4, eS4, h⟩ := wd_bx h
      refine bk_pi tb_c_169_0 rfl rfl (ci := 11) (k := 37) rfl rfl rfl rfl ?_
      rw [eS4]
      exact go_lv ls_nil (sn_Mo_keep_30 h)
  · rw [if_neg g1] at h
    refine bk_jt tb_c_169_0 rfl (pc' := 30) rfl (cm_ge_t g1) ?_
    exact go_lv ls_nil (sn_Mo_keep_30 h)
theorem mx_168 : mi_mx tb_P 168 = 4 := rfl
noncomputable def fn_Mo_onAtom_283 (S : wd_S) : Option wd_S :=
  some S
set_option maxRecDepth 100000 in
theorem sn_Mo_onAtom_283 {L : Nat} {xs : Nat → Int32} {S : wd_S} {S' : wd_S} (h : fn_Mo_onAtom_283  S = some S') : go_r tb_P L xs 5 168 283 [] [] (wd_k S) (.inl none, wd_k S') := by
  unfold fn_Mo_onAtom_283 at h
  cases h
  exact bk_t tb_c_168_3 rfl rfl
noncomputable def fn_Mo_onAtom_116 (S : wd_S) : Option wd_S :=
  fn_Mo_onAtom_283  S
set_option maxRecDepth 100000 in
theorem sn_Mo_onAtom_116 {L : Nat} {xs : Nat → Int32} {S : wd_S} {S' : wd_S} (h : fn_Mo_onAtom_116  S = some S') : go_r tb_P L xs 5 168 116 [] [] (wd_k S) (.inl none, wd_k S') := by
  unfold fn_Mo_onAtom_116 at h
  refine bk_b (q := (283, [], [])) tb_c_168_1 mx_168 1 rfl ?_
  exact go_lv ls_nil (sn_Mo_onAtom_283 h)
noncomputable def fn_Mo_onAtom_106 (l3 : Int32) (s1 : Int32) (s2 : Int32) (S : wd_S) : Option wd_S :=
  (if s1 < 0 ∨ 15010 ≤ s1.toNatClampNeg then none else
  (wd_b (wd_i S 144 s1.toNatClampNeg s2) fun S11 =>
  (wd_d (fn_Mo_keep l3 S11) fun S12 =>
  (wd_d (fn_Mo_pass  S12) fun S15 =>
  fn_Mo_onAtom_116  S15))))
set_option maxRecDepth 100000 in
theorem sn_Mo_onAtom_106 {L : Nat} {xs : Nat → Int32} {l3 : Int32} {s1 : Int32} {s2 : Int32} {S : wd_S} {S' : wd_S} (h : fn_Mo_onAtom_106 l3 s1 s2 S = some S') : go_r tb_P L xs 5 168 106 [(0, .ref 135), (3, .int l3)] [.int s2, .int s1, .ref 144] (wd_k S) (.inl none, wd_k S') := by
  unfold fn_Mo_onAtom_106 at h
  by_cases g10 : s1 < 0 ∨ 15010 ≤ s1.toNatClampNeg
  · rw [if_pos g10] at h; cases h
  · rw [if_neg g10] at h
    obtain ⟨S11, eS11, h⟩ := wd_bx h
    refine bk_s4 tb_c_168_1 rfl rfl rfl g10 ?_
    rw [eS11]
    refine bk_b (q := (109, [(0, .ref 135), (3, .int l3)], [.int l3, .ref 135])) tb_c_168_1 mx_168 2 rfl ?_
    obtain ⟨S12, c14, h⟩ := wd_dx h
    refine bk_kv tb_c_168_1 rfl rfl rfl rfl rfl (ci := 11) rfl rfl (ev_up (Nat.le_of_ble_eq_true rfl) (sn_Mo_keep c14)) ?_
    refine bk_b (q := (113, [(0, .ref 135), (3, .int l3)], [.ref 135])) tb_c_168_1 mx_168 1 rfl ?_
    obtain ⟨S15, c17, h⟩ := wd_dx h
    refine bk_kv tb_c_168_1 rfl rfl rfl rfl rfl (ci := 11) rfl rfl (ev_up (Nat.le_of_ble_eq_true rfl) (sn_Mo_pass c17)) ?_
    exact go_lv ls_nil (sn_Mo_onAtom_116 h)
noncomputable def fn_Mo_onAtom_71 (l1 : Int32) (l2 : Int32) (S : wd_S) : Option wd_S :=
  (if (S.1 135 9) = 0 then
    (wd_c (fn_Mo_node (5 : Int32) l1 S) fun x7 S6 =>
    (if l2 = 0 then
      fn_Mo_onAtom_106 x7 x7 (S6.1 135 8) S6
    else
      fn_Mo_onAtom_106 x7 x7 (-(S6.1 135 8)) S6))
  else
    fn_Mo_onAtom_116  S)
set_option maxRecDepth 100000 in
theorem sn_Mo_onAtom_71 {L : Nat} {xs : Nat → Int32} {l1 : Int32} {l2 : Int32} {S : wd_S} {S' : wd_S} (h : fn_Mo_onAtom_71 l1 l2 S = some S') : go_r tb_P L xs 5 168 71 [(0, .ref 135), (1, .int l1), (2, .int l2)] [] (wd_k S) (.inl none, wd_k S') := by
  unfold fn_Mo_onAtom_71 at h
  refine bk_b (q := (72, [(0, .ref 135), (1, .int l1), (2, .int l2)], [.ref 135])) tb_c_168_0 mx_168 1 rfl ?_
  refine bk_gi tb_c_168_0 rfl rfl (ci := 11) (k := 9) rfl rfl rfl ?_
  by_cases g5 : (S.1 135 9) = 0
  · rw [if_pos g5] at h
    refine bk_zf tb_c_168_0 rfl (pc' := 78) rfl (t := 116) rfl (cm_ne_f g5) ?_
    refine bk_b (q := (80, [(0, .ref 135), (1, .int l1), (2, .int l2)], [.int (5 : Int32), .ref 135])) tb_c_168_0 mx_168 2 rfl ?_
    refine bk_b (q := (81, [(0, .ref 135), (1, .int l1), (2, .int l2)], [.int l1, .int (5 : Int32), .ref 135])) tb_c_168_1 mx_168 1 rfl ?_
    obtain ⟨x7, S6, c8, h⟩ := wd_cx h
    refine bk_kv tb_c_168_1 rfl rfl rfl rfl rfl (ci := 11) rfl rfl (ev_up (Nat.le_of_ble_eq_true rfl) (sn_Mo_node c8)) ?_
    refine bk_b (q := (86, [(3, .int x7), (0, .ref 135), (1, .int l1), (2, .int l2)], [.ref 135])) tb_c_168_1 mx_168 2 rfl ?_
    refine bk_gc tb_c_168_1 rfl rfl (ci := 11) (k := 18) rfl rfl rfl ?_
    refine bk_b (q := (91, [(3, .int x7), (0, .ref 135), (1, .int l1), (2, .int l2)], [.int l2, .int x7, .ref 144])) tb_c_168_1 mx_168 2 rfl ?_
    by_cases g9 : l2 = 0
    · rw [if_pos g9] at h
      refine bk_zt tb_c_168_1 rfl (pc' := 102) rfl (cm_eq_t g9) ?_
      refine bk_b (q := (103, [(3, .int x7), (0, .ref 135), (1, .int l1), (2, .int l2)], [.ref 135, .int x7, .ref 144])) tb_c_168_1 mx_168 1 rfl ?_
      refine bk_gi tb_c_168_1 rfl rfl (ci := 11) (k := 8) rfl rfl rfl ?_
      exact go_lv (ls_sc rfl rfl (ls_sc rfl rfl ls_nil)) (sn_Mo_onAtom_106 h)
    · rw [if_neg g9] at h
      refine bk_zf tb_c_168_1 rfl (pc' := 94) rfl (t := 102) rfl (cm_eq_f g9) ?_
      refine bk_b (q := (95, [(3, .int x7), (0, .ref 135), (1, .int l1), (2, .int l2)], [.ref 135, .int x7, .ref 144])) tb_c_168_1 mx_168 1 rfl ?_
      refine bk_gi tb_c_168_1 rfl rfl (ci := 11) (k := 8) rfl rfl rfl ?_
      refine bk_b (q := (106, [(3, .int x7), (0, .ref 135), (1, .int l1), (2, .int l2)], [.int (-(S6.1 135 8)), .int x7, .ref 144])) tb_c_168_1 mx_168 2 rfl ?_
      exact go_lv (ls_sc rfl rfl (ls_sc rfl rfl ls_nil)) (sn_Mo_onAtom_106 h)
  · rw [if_neg g5] at h
    refine bk_zt tb_c_168_0 rfl (pc' := 116) rfl (cm_ne_t g5) ?_
    exact go_lv ls_nil (sn_Mo_onAtom_116 h)
noncomputable def fn_Mo_onAtom_46 (l1 : Int32) (l2 : Int32) (S : wd_S) : Option wd_S :=
  (if (S.1 135 9) = 0 then
    (if (S.1 135 4) = (11 : Int32) then
      fn_Mo_onAtom_71 l1 l2 S
    else
      (wd_d (fn_Mo_stop (2 : Int32) (S.1 135 5) S) fun S19 =>
      fn_Mo_onAtom_71 l1 l2 S19))
  else
    fn_Mo_onAtom_71 l1 l2 S)
set_option maxRecDepth 100000 in
theorem sn_Mo_onAtom_46 {L : Nat} {xs : Nat → Int32} {l1 : Int32} {l2 : Int32} {S : wd_S} {S' : wd_S} (h : fn_Mo_onAtom_46 l1 l2 S = some S') : go_r tb_P L xs 5 168 46 [(0, .ref 135), (1, .int l1), (2, .int l2)] [] (wd_k S) (.inl none, wd_k S') := by
  unfold fn_Mo_onAtom_46 at h
  refine bk_b (q := (47, [(0, .ref 135), (1, .int l1), (2, .int l2)], [.ref 135])) tb_c_168_0 mx_168 1 rfl ?_
  refine bk_gi tb_c_168_0 rfl rfl (ci := 11) (k := 9) rfl rfl rfl ?_
  by_cases g4 : (S.1 135 9) = 0
  · rw [if_pos g4] at h
    refine bk_zf tb_c_168_0 rfl (pc' := 53) rfl (t := 71) rfl (cm_ne_f g4) ?_
    refine bk_b (q := (54, [(0, .ref 135), (1, .int l1), (2, .int l2)], [.ref 135])) tb_c_168_0 mx_168 1 rfl ?_
    refine bk_gi tb_c_168_0 rfl rfl (ci := 11) (k := 4) rfl rfl rfl ?_
    refine bk_b (q := (59, [(0, .ref 135), (1, .int l1), (2, .int l2)], [.int (11 : Int32), .int (S.1 135 4)])) tb_c_168_0 mx_168 1 rfl ?_
    by_cases g18 : (S.1 135 4) = (11 : Int32)
    · rw [if_pos g18] at h
      refine bk_jt tb_c_168_0 rfl (pc' := 71) rfl (cm_eq_t g18) ?_
      exact go_lv (ls_sc rfl rfl (ls_sc rfl rfl (ls_sc rfl rfl ls_nil))) (sn_Mo_onAtom_71 h)
    · rw [if_neg g18] at h
      refine bk_jf tb_c_168_0 rfl (pc' := 62) rfl (t := 71) rfl (cm_eq_f g18) ?_
      refine bk_b (q := (65, [(0, .ref 135), (1, .int l1), (2, .int l2)], [.ref 135, .int (2 : Int32), .ref 135])) tb_c_168_0 mx_168 3 rfl ?_
      refine bk_gi tb_c_168_0 rfl rfl (ci := 11) (k := 5) rfl rfl rfl ?_
      obtain ⟨S19, c21, h⟩ := wd_dx h
      refine bk_kv tb_c_168_0 rfl rfl rfl rfl rfl (ci := 11) rfl rfl (ev_up (Nat.le_of_ble_eq_true rfl) (sn_Mo_stop c21)) ?_
      exact go_lv (ls_sc rfl rfl (ls_sc rfl rfl (ls_sc rfl rfl ls_nil))) (sn_Mo_onAtom_71 h)
  · rw [if_neg g4] at h
    refine bk_zt tb_c_168_0 rfl (pc' := 71) rfl (cm_ne_t g4) ?_
    exact go_lv (ls_sc rfl rfl (ls_sc rfl rfl (ls_sc rfl rfl ls_nil))) (sn_Mo_onAtom_71 h)
noncomputable def fn_Mo_onAtom_37 (l1 : Int32) (s0 : Int32) (S : wd_S) : Option wd_S :=
  (if s0 = 0 then
    fn_Mo_onAtom_46 l1 s0 S
  else
    (wd_d (fn_Mo_pass  S) fun S22 =>
    fn_Mo_onAtom_46 l1 s0 S22))
set_option maxRecDepth 100000 in
theorem sn_Mo_onAtom_37 {L : Nat} {xs : Nat → Int32} {l1 : Int32} {s0 : Int32} {S : wd_S} {S' : wd_S} (h : fn_Mo_onAtom_37 l1 s0 S = some S') : go_r tb_P L xs 5 168 37 [(0, .ref 135), (1, .int l1)] [.int s0] (wd_k S) (.inl none, wd_k S') := by
  unfold fn_Mo_onAtom_37 at h
  refine bk_b (q := (39, [(2, .int s0), (0, .ref 135), (1, .int l1)], [.int s0])) tb_c_168_0 mx_168 2 rfl ?_
  by_cases g3 : s0 = 0
  · rw [if_pos g3] at h
    refine bk_zt tb_c_168_0 rfl (pc' := 46) rfl (cm_eq_t g3) ?_
    exact go_lv (ls_sc rfl rfl (ls_sc rfl rfl (ls_sc rfl rfl ls_nil))) (sn_Mo_onAtom_46 h)
  · rw [if_neg g3] at h
    refine bk_zf tb_c_168_0 rfl (pc' := 42) rfl (t := 46) rfl (cm_eq_f g3) ?_
    refine bk_b (q := (43, [(2, .int s0), (0, .ref 135), (1, .int l1)], [.ref 135])) tb_c_168_0 mx_168 1 rfl ?_
    obtain ⟨S22, c24, h⟩ := wd_dx h
    refine bk_kv tb_c_168_0 rfl rfl rfl rfl rfl (ci := 11) rfl rfl (ev_up (Nat.le_of_ble_eq_true rfl) (sn_Mo_pass c24)) ?_
    exact go_lv (ls_sc rfl rfl (ls_sc rfl rfl (ls_sc rfl rfl ls_nil))) (sn_Mo_onAtom_46 h)
noncomputable def fn_Mo_onAtom_23 (l1 : Int32) (S : wd_S) : Option wd_S :=
  (if (S.1 135 4) = (20 : Int32) then
    fn_Mo_onAtom_37 l1 (1 : Int32) S
  else
    fn_Mo_onAtom_37 l1 (0 : Int32) S)
set_option maxRecDepth 100000 in
theorem sn_Mo_onAtom_23 {L : Nat} {xs : Nat → Int32} {l1 : Int32} {S : wd_S} {S' : wd_S} (h : fn_Mo_onAtom_23 l1 S = some S') : go_r tb_P L xs 5 168 23 [(0, .ref 135), (1, .int l1)] [] (wd_k S) (.inl none, wd_k S') := by
  unfold fn_Mo_onAtom_23 at h
  refine bk_b (q := (24, [(0, .ref 135), (1, .int l1)], [.ref 135])) tb_c_168_0 mx_168 1 rfl ?_
  refine bk_gi tb_c_168_0 rfl rfl (ci := 11) (k := 4) rfl rfl rfl ?_
  refine bk_b (q := (29, [(0, .ref 135), (1, .int l1)], [.int (20 : Int32), .int (S.1 135 4)])) tb_c_168_0 mx_168 1 rfl ?_
  by_cases g2 : (S.1 135 4) = (20 : Int32)
  · rw [if_pos g2] at h
    refine bk_jf tb_c_168_0 rfl (pc' := 32) rfl (t := 36) rfl (cm_ne_f g2) ?_
    refine bk_b (q := (37, [(0, .ref 135), (1, .int l1)], [.int (1 : Int32)])) tb_c_168_0 mx_168 2 rfl ?_
    exact go_lv (ls_sc rfl rfl (ls_sc rfl rfl ls_nil)) (sn_Mo_onAtom_37 h)
  · rw [if_neg g2] at h
    refine bk_jt tb_c_168_0 rfl (pc' := 36) rfl (cm_ne_t g2) ?_
    refine bk_b (q := (37, [(0, .ref 135), (1, .int l1)], [.int (0 : Int32)])) tb_c_168_0 mx_168 1 rfl ?_
    exact go_lv (ls_sc rfl rfl (ls_sc rfl rfl ls_nil)) (sn_Mo_onAtom_37 h)
noncomputable def fn_Mo_onAtom_242 (S : wd_S) : Option wd_S :=
  fn_Mo_onAtom_283  S
set_option maxRecDepth 100000 in
theorem sn_Mo_onAtom_242 {L : Nat} {xs : Nat → Int32} {S : wd_S} {S' : wd_S} (h : fn_Mo_onAtom_242  S = some S') : go_r tb_P L xs 5 168 242 [] [] (wd_k S) (.inl none, wd_k S') := by
  unfold fn_Mo_onAtom_242 at h
  refine bk_b (q := (283, [], [])) tb_c_168_3 mx_168 1 rfl ?_
  exact go_lv ls_nil (sn_Mo_onAtom_283 h)
noncomputable def fn_Mo_onAtom_237 (l2 : Int32) (S : wd_S) : Option wd_S :=
  (wd_d (fn_Mo_keep l2 S) fun S49 =>
  fn_Mo_onAtom_242  S49)
set_option maxRecDepth 100000 in
theorem sn_Mo_onAtom_237 {L : Nat} {xs : Nat → Int32} {l2 : Int32} {S : wd_S} {S' : wd_S} (h : fn_Mo_onAtom_237 l2 S = some S') : go_r tb_P L xs 5 168 237 [(0, .ref 135), (2, .int l2)] [] (wd_k S) (.inl none, wd_k S') := by
  unfold fn_Mo_onAtom_237 at h
  refine bk_b (q := (239, [(0, .ref 135), (2, .int l2)], [.int l2, .ref 135])) tb_c_168_3 mx_168 2 rfl ?_
  obtain ⟨S49, c51, h⟩ := wd_dx h
  refine bk_kv tb_c_168_3 rfl rfl rfl rfl rfl (ci := 11) rfl rfl (ev_up (Nat.le_of_ble_eq_true rfl) (sn_Mo_keep c51)) ?_
  exact go_lv ls_nil (sn_Mo_onAtom_242 h)
noncomputable def fn_Mo_onAtom_220 (l2 : Int32) (S : wd_S) : Option wd_S :=
  (wd_d (fn_Mo_push (21 : Int32) l2 S) fun S61 =>
  (wd_d (fn_Mo_push (1 : Int32) (15 : Int32) S61) fun S64 =>
  fn_Mo_onAtom_242  S64))
set_option maxRecDepth 100000 in
theorem sn_Mo_onAtom_220 {L : Nat} {xs : Nat → Int32} {l2 : Int32} {S : wd_S} {S' : wd_S} (h : fn_Mo_onAtom_220 l2 S = some S') : go_r tb_P L xs 5 168 220 [(0, .ref 135), (2, .int l2)] [] (wd_k S) (.inl none, wd_k S') := by
  unfold fn_Mo_onAtom_220 at h
  refine bk_b (q := (224, [(0, .ref 135), (2, .int l2)], [.int l2, .int (21 : Int32), .ref 135])) tb_c_168_2 mx_168 3 rfl ?_
  obtain ⟨S61, c63, h⟩ := wd_dx h
  refine bk_kv tb_c_168_2 rfl rfl rfl rfl rfl (ci := 11) rfl rfl (ev_up (Nat.le_of_ble_eq_true rfl) (sn_Mo_push c63)) ?_
  refine bk_b (q := (229, [(0, .ref 135), (2, .int l2)], [.int (1 : Int32), .ref 135])) tb_c_168_2 mx_168 2 rfl ?_
  refine bk_b (q := (231, [(0, .ref 135), (2, .int l2)], [.int (15 : Int32), .int (1 : Int32), .ref 135])) tb_c_168_3 mx_168 1 rfl ?_
  obtain ⟨S64, c66, h⟩ := wd_dx h
  refine bk_kv tb_c_168_3 rfl rfl rfl rfl rfl (ci := 11) rfl rfl (ev_up (Nat.le_of_ble_eq_true rfl) (sn_Mo_push c66)) ?_
  refine bk_b (q := (242, [(0, .ref 135), (2, .int l2)], [])) tb_c_168_3 mx_168 1 rfl ?_
  exact go_lv ls_nil (sn_Mo_onAtom_242 h)
/-- SpecialiserModel.onAtom()V -/
noncomputable def fn_Mo_onAtom (S : wd_S) : Option wd_S :=
  (if (S.1 135 4) = (11 : Int32) then
    fn_Mo_onAtom_23 (S.1 135 5) S
  else
    (if (S.1 135 4) = (20 : Int32) then
      fn_Mo_onAtom_23 (S.1 135 5) S
    else
      (if (S.1 135 4) = (10 : Int32) then
        (wd_c (fn_Mo_node (7 : Int32) (S.1 135 5) S) fun x41 S40 =>
        (if x41 < 0 ∨ 15010 ≤ x41.toNatClampNeg then none else
        (wd_b (wd_l S40 148 x41.toNatClampNeg (S40.2.1 135 7)) fun S44 =>
        (wd_d (fn_Mo_pass  S44) fun S45 =>
        (if (S45.1 135 9) = 0 then
          (if (S45.1 135 4) = (14 : Int32) then
            (if x41 < 0 ∨ 15010 ≤ x41.toNatClampNeg then none else
            (wd_b (wd_i S45 143 x41.toNatClampNeg (8 : Int32)) fun S54 =>
            (if x41 < 0 ∨ 15010 ≤ x41.toNatClampNeg then none else
            (wd_b (wd_i S54 145 x41.toNatClampNeg (S54.1 135 30)) fun S56 =>
            (wd_d (fn_Mo_pass  S56) fun S57 =>
            (if (S57.1 135 9) = 0 then
              (if (S57.1 135 4) = (15 : Int32) then
                fn_Mo_onAtom_220 x41 S57
              else
                (wd_d (fn_Mo_push (20 : Int32) x41 S57) fun S68 =>
                (wd_d (fn_Mo_push (4 : Int32) (0 : Int32) S68) fun S71 =>
                fn_Mo_onAtom_242  S71)))
            else
              fn_Mo_onAtom_220 x41 S57))))))
          else
            fn_Mo_onAtom_237 x41 S45)
        else
          fn_Mo_onAtom_237 x41 S45)))))
      else
        (if (S.1 135 4) = (14 : Int32) then
          (wd_d (fn_Mo_push (1 : Int32) (15 : Int32) S) fun S31 =>
          (wd_d (fn_Mo_push (4 : Int32) (0 : Int32) S31) fun S34 =>
          (wd_d (fn_Mo_pass  S34) fun S37 =>
          fn_Mo_onAtom_283  S37)))
        else
          (wd_d (fn_Mo_stop (2 : Int32) (S.1 135 5) S) fun S28 =>
          fn_Mo_onAtom_283  S28)))))
set_option maxRecDepth 100000 in
theorem sn_Mo_onAtom {L : Nat} {xs : Nat → Int32} {S : wd_S} {S' : wd_S} (h : fn_Mo_onAtom  S = some S') : ev_r tb_P L xs (5 + 1) 168 [.ref 135] (wd_k S) (.inl none, wd_k S') := by
  unfold fn_Mo_onAtom at h
  refine ev_of (Nat.le_of_ble_eq_true rfl) ?_
  show go_r tb_P L xs 5 168 0 [(0, .ref 135)] [] (wd_k S) (.inl none, wd_k S')
  refine bk_b (q := (1, [(0, .ref 135)], [.ref 135])) tb_c_168_0 mx_168 1 rfl ?_
  refine bk_gi tb_c_168_0 rfl rfl (ci := 11) (k := 5) rfl rfl rfl ?_
  refine bk_b (q := (6, [(1, .int (S.1 135 5)), (0, .ref 135)], [.ref 135])) tb_c_168_0 mx_168 2 rfl ?_
  refine bk_gi tb_c_168_0 rfl rfl (ci := 11) (k := 4) rfl rfl rfl ?_
  refine bk_b (q := (11, [(1, .int (S.1 135 5)), (0, .ref 135)], [.int (11 : Int32), .int (S.1 135 4)])) tb_c_168_0 mx_168 1 rfl ?_
  by_cases g1 : (S.1 135 4) = (11 : Int32)
  · rw [if_pos g1] at h
    refine bk_jt tb_c_168_0 rfl (pc' := 23) rfl (cm_eq_t g1) ?_
    exact go_lv (ls_sc rfl rfl (ls_sc rfl rfl ls_nil)) (sn_Mo_onAtom_23 h)
  · rw [if_neg g1] at h
    refine bk_jf tb_c_168_0 rfl (pc' := 14) rfl (t := 23) rfl (cm_eq_f g1) ?_
    refine bk_b (q := (15, [(1, .int (S.1 135 5)), (0, .ref 135)], [.ref 135])) tb_c_168_0 mx_168 1 rfl ?_
    refine bk_gi tb_c_168_0 rfl rfl (ci := 11) (k := 4) rfl rfl rfl ?_
    refine bk_b (q := (20, [(1, .int (S.1 135 5)), (0, .ref 135)], [.int (20 : Int32), .int (S.1 135 4)])) tb_c_168_0 mx_168 1 rfl ?_
    by_cases g25 : (S.1 135 4) = (20 : Int32)
    · rw [if_pos g25] at h
      refine bk_jf tb_c_168_0 rfl (pc' := 23) rfl (t := 119) rfl (cm_ne_f g25) ?_
      exact go_lv (ls_sc rfl rfl (ls_sc rfl rfl ls_nil)) (sn_Mo_onAtom_23 h)
    · rw [if_neg g25] at h
      refine bk_jt tb_c_168_0 rfl (pc' := 119) rfl (cm_ne_t g25) ?_
      refine bk_b (q := (120, [(1, .int (S.1 135 5)), (0, .ref 135)], [.ref 135])) tb_c_168_1 mx_168 1 rfl ?_
      refine bk_gi tb_c_168_1 rfl rfl (ci := 11) (k := 4) rfl rfl rfl ?_
      refine bk_b (q := (125, [(1, .int (S.1 135 5)), (0, .ref 135)], [.int (10 : Int32), .int (S.1 135 4)])) tb_c_168_1 mx_168 1 rfl ?_
      by_cases g26 : (S.1 135 4) = (10 : Int32)
      · rw [if_pos g26] at h
        refine bk_jf tb_c_168_1 rfl (pc' := 128) rfl (t := 245) rfl (cm_ne_f g26) ?_
        refine bk_b (q := (132, [(1, .int (S.1 135 5)), (0, .ref 135)], [.int (S.1 135 5), .int (7 : Int32), .ref 135])) tb_c_168_1 mx_168 3 rfl ?_
        obtain ⟨x41, S40, c42, h⟩ := wd_cx h
        refine bk_kv tb_c_168_1 rfl rfl rfl rfl rfl (ci := 11) rfl rfl (ev_up (Nat.le_of_ble_eq_true rfl) (sn_Mo_node c42)) ?_
        refine bk_b (q := (137, [(2, .int x41), (1, .int (S.1 135 5)), (0, .ref 135)], [.ref 135])) tb_c_168_1 mx_168 2 rfl ?_
        refine bk_gc tb_c_168_1 rfl rfl (ci := 11) (k := 22) rfl rfl rfl ?_
        refine bk_b (q := (142, [(2, .int x41), (1, .int (S.1 135 5)), (0, .ref 135)], [.ref 135, .int x41, .ref 148])) tb_c_168_1 mx_168 2 rfl ?_
        refine bk_gl tb_c_168_1 rfl rfl (ci := 11) (k := 7) rfl rfl rfl ?_
        by_cases g43 : x41 < 0 ∨ 15010 ≤ x41.toNatClampNeg
        · rw [if_pos g43] at h; cases h
        · rw [if_neg g43] at h
          obtain ⟨S44, eS44, h⟩ := wd_bx h
          refine bk_s8 tb_c_168_1 rfl rfl rfl g43 ?_
          rw [eS44]
          refine bk_b (q := (147, [(2, .int x41), (1, .int (S.1 135 5)), (0, .ref 135)], [.ref 135])) tb_c_168_1 mx_168 1 rfl ?_
          obtain ⟨S45, c47, h⟩ := wd_dx h
          refine bk_kv tb_c_168_1 rfl rfl rfl rfl rfl (ci := 11) rfl rfl (ev_up (Nat.le_of_ble_eq_true rfl) (sn_Mo_pass c47)) ?_
          refine bk_b (q := (151, [(2, .int x41), (1, .int (S.1 135 5)), (0, .ref 135)], [.ref 135])) tb_c_168_1 mx_168 1 rfl ?_
          refine bk_gi tb_c_168_1 rfl rfl (ci := 11) (k := 9) rfl rfl rfl ?_
          by_cases g48 : (S45.1 135 9) = 0
          · rw [if_pos g48] at h
            refine bk_zf tb_c_168_2 rfl (pc' := 157) rfl (t := 237) rfl (cm_ne_f g48) ?_
            refine bk_b (q := (158, [(2, .int x41), (1, .int (S.1 135 5)), (0, .ref 135)], [.ref 135])) tb_c_168_2 mx_168 1 rfl ?_
            refine bk_gi tb_c_168_2 rfl rfl (ci := 11) (k := 4) rfl rfl rfl ?_
            refine bk_b (q := (163, [(2, .int x41), (1, .int (S.1 135 5)), (0, .ref 135)], [.int (14 : Int32), .int (S45.1 135 4)])) tb_c_168_2 mx_168 1 rfl ?_
            by_cases g52 : (S45.1 135 4) = (14 : Int32)
            · rw [if_pos g52] at h
              refine bk_jf tb_c_168_2 rfl (pc' := 166) rfl (t := 237) rfl (cm_ne_f g52) ?_
              refine bk_b (q := (167, [(2, .int x41), (1, .int (S.1 135 5)), (0, .ref 135)], [.ref 135])) tb_c_168_2 mx_168 1 rfl ?_
              refine bk_gc tb_c_168_2 rfl rfl (ci := 11) (k := 17) rfl rfl rfl ?_
              refine bk_b (q := (173, [(2, .int x41), (1, .int (S.1 135 5)), (0, .ref 135)], [.int (8 : Int32), .int x41, .ref 143])) tb_c_168_2 mx_168 2 rfl ?_
              by_cases g53 : x41 < 0 ∨ 15010 ≤ x41.toNatClampNeg
              · rw [if_pos g53] at h; cases h
              · rw [if_neg g53] at h
                obtain ⟨S54, eS54, h⟩ := wd_bx h
                refine bk_s4 tb_c_168_2 rfl rfl rfl g53 ?_
                rw [eS54]
                refine bk_b (q := (175, [(2, .int x41), (1, .int (S.1 135 5)), (0, .ref 135)], [.ref 135])) tb_c_168_2 mx_168 1 rfl ?_
                refine bk_gc tb_c_168_2 rfl rfl (ci := 11) (k := 19) rfl rfl rfl ?_
                refine bk_b (q := (180, [(2, .int x41), (1, .int (S.1 135 5)), (0, .ref 135)], [.ref 135, .int x41, .ref 145])) tb_c_168_2 mx_168 2 rfl ?_
                refine bk_gi tb_c_168_2 rfl rfl (ci := 11) (k := 30) rfl rfl rfl ?_
                by_cases g55 : x41 < 0 ∨ 15010 ≤ x41.toNatClampNeg
                · rw [if_pos g55] at h; cases h
                · rw [if_neg g55] at h
                  obtain ⟨S56, eS56, h⟩ := wd_bx h
                  refine bk_s4 tb_c_168_2 rfl rfl rfl g55 ?_
                  rw [eS56]
                  refine bk_b (q := (185, [(2, .int x41), (1, .int (S.1 135 5)), (0, .ref 135)], [.ref 135])) tb_c_168_2 mx_168 1 rfl ?_
                  obtain ⟨S57, c59, h⟩ := wd_dx h
                  refine bk_kv tb_c_168_2 rfl rfl rfl rfl rfl (ci := 11) rfl rfl (ev_up (Nat.le_of_ble_eq_true rfl) (sn_Mo_pass c59)) ?_
                  refine bk_b (q := (189, [(2, .int x41), (1, .int (S.1 135 5)), (0, .ref 135)], [.ref 135])) tb_c_168_2 mx_168 1 rfl ?_
                  refine bk_gi tb_c_168_2 rfl rfl (ci := 11) (k := 9) rfl rfl rfl ?_
                  by_cases g60 : (S57.1 135 9) = 0
                  · rw [if_pos g60] at h
                    refine bk_zf tb_c_168_2 rfl (pc' := 195) rfl (t := 220) rfl (cm_ne_f g60) ?_
                    refine bk_b (q := (196, [(2, .int x41), (1, .int (S.1 135 5)), (0, .ref 135)], [.ref 135])) tb_c_168_2 mx_168 1 rfl ?_
                    refine bk_gi tb_c_168_2 rfl rfl (ci := 11) (k := 4) rfl rfl rfl ?_
                    refine bk_b (q := (201, [(2, .int x41), (1, .int (S.1 135 5)), (0, .ref 135)], [.int (15 : Int32), .int (S57.1 135 4)])) tb_c_168_2 mx_168 1 rfl ?_
                    by_cases g67 : (S57.1 135 4) = (15 : Int32)
                    · rw [if_pos g67] at h
                      refine bk_jt tb_c_168_2 rfl (pc' := 220) rfl (cm_eq_t g67) ?_
                      exact go_lv (ls_sc rfl rfl (ls_sc rfl rfl ls_nil)) (sn_Mo_onAtom_220 h)
                    · rw [if_neg g67] at h
                      refine bk_jf tb_c_168_2 rfl (pc' := 204) rfl (t := 220) rfl (cm_eq_f g67) ?_
                      refine bk_b (q := (208, [(2, .int x41), (1, .int (S.1 135 5)), (0, .ref 135)], [.int x41, .int (20 : Int32), .ref 135])) tb_c_168_2 mx_168 3 rfl ?_
                      obtain ⟨S68, c70, h⟩ := wd_dx h
                      refine bk_kv tb_c_168_2 rfl rfl rfl rfl rfl (ci := 11) rfl rfl (ev_up (Nat.le_of_ble_eq_true rfl) (sn_Mo_push c70)) ?_
                      refine bk_b (q := (214, [(2, .int x41), (1, .int (S.1 135 5)), (0, .ref 135)], [.int (0 : Int32), .int (4 : Int32), .ref 135])) tb_c_168_2 mx_168 3 rfl ?_
                      obtain ⟨S71, c73, h⟩ := wd_dx h
                      refine bk_kv tb_c_168_2 rfl rfl rfl rfl rfl (ci := 11) rfl rfl (ev_up (Nat.le_of_ble_eq_true rfl) (sn_Mo_push c73)) ?_
                      refine bk_b (q := (242, [(2, .int x41), (1, .int (S.1 135 5)), (0, .ref 135)], [])) tb_c_168_2 mx_168 1 rfl ?_
                      exact go_lv ls_nil (sn_Mo_onAtom_242 h)
                  · rw [if_neg g60] at h
                    refine bk_zt tb_c_168_2 rfl (pc' := 220) rfl (cm_ne_t g60) ?_
                    exact go_lv (ls_sc rfl rfl (ls_sc rfl rfl ls_nil)) (sn_Mo_onAtom_220 h)
            · rw [if_neg g52] at h
              refine bk_jt tb_c_168_2 rfl (pc' := 237) rfl (cm_ne_t g52) ?_
              exact go_lv (ls_sc rfl rfl (ls_sc rfl rfl ls_nil)) (sn_Mo_onAtom_237 h)
          · rw [if_neg g48] at h
            refine bk_zt tb_c_168_2 rfl (pc' := 237) rfl (cm_ne_t g48) ?_
            exact go_lv (ls_sc rfl rfl (ls_sc rfl rfl ls_nil)) (sn_Mo_onAtom_237 h)
      · rw [if_neg g26] at h
        refine bk_jt tb_c_168_1 rfl (pc' := 245) rfl (cm_ne_t g26) ?_
        refine bk_b (q := (246, [(1, .int (S.1 135 5)), (0, .ref 135)], [.ref 135])) tb_c_168_3 mx_168 1 rfl ?_
        refine bk_gi tb_c_168_3 rfl rfl (ci := 11) (k := 4) rfl rfl rfl ?_
        refine bk_b (q := (251, [(1, .int (S.1 135 5)), (0, .ref 135)], [.int (14 : Int32), .int (S.1 135 4)])) tb_c_168_3 mx_168 1 rfl ?_
        by_cases g27 : (S.1 135 4) = (14 : Int32)
        · rw [if_pos g27] at h
          refine bk_jf tb_c_168_3 rfl (pc' := 254) rfl (t := 274) rfl (cm_ne_f g27) ?_
          refine bk_b (q := (258, [(1, .int (S.1 135 5)), (0, .ref 135)], [.int (15 : Int32), .int (1 : Int32), .ref 135])) tb_c_168_3 mx_168 3 rfl ?_
          obtain ⟨S31, c33, h⟩ := wd_dx h
          refine bk_kv tb_c_168_3 rfl rfl rfl rfl rfl (ci := 11) rfl rfl (ev_up (Nat.le_of_ble_eq_true rfl) (sn_Mo_push c33)) ?_
          refine bk_b (q := (264, [(1, .int (S.1 135 5)), (0, .ref 135)], [.int (0 : Int32), .int (4 : Int32), .ref 135])) tb_c_168_3 mx_168 3 rfl ?_
          obtain ⟨S34, c36, h⟩ := wd_dx h
          refine bk_kv tb_c_168_3 rfl rfl rfl rfl rfl (ci := 11) rfl rfl (ev_up (Nat.le_of_ble_eq_true rfl) (sn_Mo_push c36)) ?_
          refine bk_b (q := (268, [(1, .int (S.1 135 5)), (0, .ref 135)], [.ref 135])) tb_c_168_3 mx_168 1 rfl ?_
          obtain ⟨S37, c39, h⟩ := wd_dx h
          refine bk_kv tb_c_168_3 rfl rfl rfl rfl rfl (ci := 11) rfl rfl (ev_up (Nat.le_of_ble_eq_true rfl) (sn_Mo_pass c39)) ?_
          refine bk_b (q := (283, [(1, .int (S.1 135 5)), (0, .ref 135)], [])) tb_c_168_3 mx_168 1 rfl ?_
          exact go_lv ls_nil (sn_Mo_onAtom_283 h)
        · rw [if_neg g27] at h
          refine bk_jt tb_c_168_3 rfl (pc' := 274) rfl (cm_ne_t g27) ?_
          refine bk_b (q := (277, [(1, .int (S.1 135 5)), (0, .ref 135)], [.ref 135, .int (2 : Int32), .ref 135])) tb_c_168_3 mx_168 3 rfl ?_
          refine bk_gi tb_c_168_3 rfl rfl (ci := 11) (k := 5) rfl rfl rfl ?_
          obtain ⟨S28, c30, h⟩ := wd_dx h
          refine bk_kv tb_c_168_3 rfl rfl rfl rfl rfl (ci := 11) rfl rfl (ev_up (Nat.le_of_ble_eq_true rfl) (sn_Mo_stop c30)) ?_
          exact go_lv ls_nil (sn_Mo_onAtom_283 h)
theorem mx_170 : mi_mx tb_P 170 = 1 := rfl
noncomputable def fn_Mo_last_17 (s1 : Int32) (s2 : Int32) (S : wd_S) : Option (Int32 × wd_S) :=
  (wd_b (wd_i S 135 37 (s1 - s2)) fun S2 =>
  (if (S2.1 135 37) < 0 ∨ 1600 ≤ (S2.1 135 37).toNatClampNeg then none else
  some (S2.1 155 (S2.1 135 37).toNatClampNeg, S2)))
set_option maxRecDepth 100000 in
theorem sn_Mo_last_17 {L : Nat} {xs : Nat → Int32} {s1 : Int32} {s2 : Int32} {S : wd_S} {x : Int32} {S' : wd_S} (h : fn_Mo_last_17 s1 s2 S = some (x, S')) : go_r tb_P L xs 0 170 17 [(0, .ref 135)] [.int s2, .int s1, .ref 135] (wd_k S) (.inl (some (.int x)), wd_k S') := by
  unfold fn_Mo_last_17 at h
  refine bk_b (q := (18, [(0, .ref 135)], [.int (s1 - s2), .ref 135])) tb_c_170_0 mx_170 1 rfl ?_
  obtain ⟨S2, eS2, h⟩ := wd_bx h
  refine bk_pi tb_c_170_0 rfl rfl (ci := 11) (k := 37) rfl rfl rfl rfl ?_
  rw [eS2]
  refine bk_b (q := (22, [(0, .ref 135)], [.ref 135])) tb_c_170_0 mx_170 1 rfl ?_
  refine bk_gc tb_c_170_0 rfl rfl (ci := 11) (k := 36) rfl rfl rfl ?_
  refine bk_b (q := (26, [(0, .ref 135)], [.ref 135, .ref 155])) tb_c_170_0 mx_170 1 rfl ?_
  refine bk_gi tb_c_170_0 rfl rfl (ci := 11) (k := 37) rfl rfl rfl ?_
  by_cases g3 : (S2.1 135 37) < 0 ∨ 1600 ≤ (S2.1 135 37).toNatClampNeg
  · rw [if_pos g3] at h; cases h
  · rw [if_neg g3] at h
    refine bk_a4 tb_c_170_0 rfl rfl rfl g3 ?_
    cases h
    exact bk_t tb_c_170_0 rfl rfl
/-- SpecialiserModel.last()I -/
noncomputable def fn_Mo_last (S : wd_S) : Option (Int32 × wd_S) :=
  (if 0 < (S.1 135 37) then
    fn_Mo_last_17 (S.1 135 37) (1 : Int32) S
  else
    fn_Mo_last_17 (S.1 135 37) (0 : Int32) S)
set_option maxRecDepth 100000 in
theorem sn_Mo_last {L : Nat} {xs : Nat → Int32} {S : wd_S} {x : Int32} {S' : wd_S} (h : fn_Mo_last  S = some (x, S')) : ev_r tb_P L xs (0 + 1) 170 [.ref 135] (wd_k S) (.inl (some (.int x)), wd_k S') := by
  unfold fn_Mo_last at h
  refine ev_of (Nat.le_of_ble_eq_true rfl) ?_
  show go_r tb_P L xs 0 170 0 [(0, .ref 135)] [] (wd_k S) (.inl (some (.int x)), wd_k S')
  refine bk_b (q := (2, [(0, .ref 135)], [.ref 135, .ref 135])) tb_c_170_0 mx_170 2 rfl ?_
  refine bk_gi tb_c_170_0 rfl rfl (ci := 11) (k := 37) rfl rfl rfl ?_
  refine bk_b (q := (6, [(0, .ref 135)], [.ref 135, .int (S.1 135 37), .ref 135])) tb_c_170_0 mx_170 1 rfl ?_
  refine bk_gi tb_c_170_0 rfl rfl (ci := 11) (k := 37) rfl rfl rfl ?_
  by_cases g1 : 0 < (S.1 135 37)
  · rw [if_pos g1] at h
    refine bk_zf tb_c_170_0 rfl (pc' := 12) rfl (t := 16) rfl (cm_le_f g1) ?_
    refine bk_b (q := (17, [(0, .ref 135)], [.int (1 : Int32), .int (S.1 135 37), .ref 135])) tb_c_170_0 mx_170 2 rfl ?_
    exact go_lv (ls_sc rfl rfl ls_nil) (sn_Mo_last_17 h)
  · rw [if_neg g1] at h
    refine bk_zt tb_c_170_0 rfl (pc' := 16) rfl (cm_le_t g1) ?_
    refine bk_b (q := (17, [(0, .ref 135)], [.int (0 : Int32), .int (S.1 135 37), .ref 135])) tb_c_170_0 mx_170 1 rfl ?_
    exact go_lv (ls_sc rfl rfl ls_nil) (sn_Mo_last_17 h)
theorem mx_167 : mi_mx tb_P 167 = 6 := rfl
noncomputable def fn_Mo_onSum_248 (S : wd_S) : Option wd_S :=
  some S
set_option maxRecDepth 100000 in
theorem sn_Mo_onSum_248 {L : Nat} {xs : Nat → Int32} {S : wd_S} {S' : wd_S} (h : fn_Mo_onSum_248  S = some S') : go_r tb_P L xs 6 167 248 [] [] (wd_k S) (.inl none, wd_k S') := by
  unfold fn_Mo_onSum_248 at h
  cases h
  exact bk_t tb_c_167_3 rfl rfl
noncomputable def fn_Mo_onSum_240 (s1 : Int32) (S : wd_S) : Option wd_S :=
  (wd_d (fn_Mo_push s1 (0 : Int32) S) fun S14 =>
  (wd_d (fn_Mo_pass  S14) fun S17 =>
  fn_Mo_onSum_248  S17))
set_option maxRecDepth 100000 in
theorem sn_Mo_onSum_240 {L : Nat} {xs : Nat → Int32} {s1 : Int32} {S : wd_S} {S' : wd_S} (h : fn_Mo_onSum_240 s1 S = some S') : go_r tb_P L xs 6 167 240 [(0, .ref 135)] [.int s1, .ref 135] (wd_k S) (.inl none, wd_k S') := by
  unfold fn_Mo_onSum_240 at h
  refine bk_b (q := (241, [(0, .ref 135)], [.int (0 : Int32), .int s1, .ref 135])) tb_c_167_3 mx_167 1 rfl ?_
  obtain ⟨S14, c16, h⟩ := wd_dx h
  refine bk_kv tb_c_167_3 rfl rfl rfl rfl rfl (ci := 11) rfl rfl (ev_up (Nat.le_of_ble_eq_true rfl) (sn_Mo_push c16)) ?_
  refine bk_b (q := (245, [(0, .ref 135)], [.ref 135])) tb_c_167_3 mx_167 1 rfl ?_
  obtain ⟨S17, c19, h⟩ := wd_dx h
  refine bk_kv tb_c_167_3 rfl rfl rfl rfl rfl (ci := 11) rfl rfl (ev_up (Nat.le_of_ble_eq_true rfl) (sn_Mo_pass c19)) ?_
  exact go_lv ls_nil (sn_Mo_onSum_248 h)
noncomputable def fn_Mo_onSum_205 (l1 : Int32) (S : wd_S) : Option wd_S :=
  (wd_d (fn_Mo_push (12 : Int32) (S.1 135 4) S) fun S9 =>
  (if l1 = (11 : Int32) then
    fn_Mo_onSum_240 (6 : Int32) S9
  else
    (if l1 = (7 : Int32) then
      fn_Mo_onSum_240 (8 : Int32) S9
    else
      fn_Mo_onSum_240 (10 : Int32) S9)))
set_option maxRecDepth 100000 in
theorem sn_Mo_onSum_205 {L : Nat} {xs : Nat → Int32} {l1 : Int32} {S : wd_S} {S' : wd_S} (h : fn_Mo_onSum_205 l1 S = some S') : go_r tb_P L xs 6 167 205 [(0, .ref 135), (1, .int l1)] [] (wd_k S) (.inl none, wd_k S') := by
  unfold fn_Mo_onSum_205 at h
  refine bk_b (q := (209, [(0, .ref 135), (1, .int l1)], [.ref 135, .int (12 : Int32), .ref 135])) tb_c_167_2 mx_167 3 rfl ?_
  refine bk_gi tb_c_167_2 rfl rfl (ci := 11) (k := 4) rfl rfl rfl ?_
  obtain ⟨S9, c11, h⟩ := wd_dx h
  refine bk_kv tb_c_167_2 rfl rfl rfl rfl rfl (ci := 11) rfl rfl (ev_up (Nat.le_of_ble_eq_true rfl) (sn_Mo_push c11)) ?_
  refine bk_b (q := (219, [(0, .ref 135), (1, .int l1)], [.int (11 : Int32), .int l1, .ref 135])) tb_c_167_2 mx_167 3 rfl ?_
  by_cases g12 : l1 = (11 : Int32)
  · rw [if_pos g12] at h
    refine bk_jf tb_c_167_2 rfl (pc' := 222) rfl (t := 227) rfl (cm_ne_f g12) ?_
    refine bk_b (q := (240, [(0, .ref 135), (1, .int l1)], [.int (6 : Int32), .ref 135])) tb_c_167_2 mx_167 2 rfl ?_
    exact go_lv (ls_sc rfl rfl ls_nil) (sn_Mo_onSum_240 h)
  · rw [if_neg g12] at h
    refine bk_jt tb_c_167_2 rfl (pc' := 227) rfl (cm_ne_t g12) ?_
    refine bk_b (q := (230, [(0, .ref 135), (1, .int l1)], [.int (7 : Int32), .int l1, .ref 135])) tb_c_167_2 mx_167 2 rfl ?_
    by_cases g13 : l1 = (7 : Int32)
    · rw [if_pos g13] at h
      refine bk_jf tb_c_167_2 rfl (pc' := 233) rfl (t := 238) rfl (cm_ne_f g13) ?_
      refine bk_b (q := (240, [(0, .ref 135), (1, .int l1)], [.int (8 : Int32), .ref 135])) tb_c_167_2 mx_167 2 rfl ?_
      exact go_lv (ls_sc rfl rfl ls_nil) (sn_Mo_onSum_240 h)
    · rw [if_neg g13] at h
      refine bk_jt tb_c_167_2 rfl (pc' := 238) rfl (cm_ne_t g13) ?_
      refine bk_b (q := (240, [(0, .ref 135), (1, .int l1)], [.int (10 : Int32), .ref 135])) tb_c_167_3 mx_167 1 rfl ?_
      exact go_lv (ls_sc rfl rfl ls_nil) (sn_Mo_onSum_240 h)
/-- SpecialiserModel.onSum(II)V -/
noncomputable def fn_Mo_onSum (p1 : Int32) (p2 : Int32) (S : wd_S) : Option wd_S :=
  (if p1 = (5 : Int32) then
    (wd_b (wd_i S 135 38 ((S.1 135 38) - (1 : Int32))) fun S58 =>
    fn_Mo_onSum_248  S58)
  else
    (if p1 = (6 : Int32) then
      (wd_d (fn_Mo_push (7 : Int32) (0 : Int32) S) fun S52 =>
      (wd_d (fn_Mo_push (8 : Int32) (0 : Int32) S52) fun S55 =>
      fn_Mo_onSum_248  S55))
    else
      (if p1 = (8 : Int32) then
        (wd_d (fn_Mo_push (9 : Int32) (0 : Int32) S) fun S46 =>
        (wd_d (fn_Mo_push (10 : Int32) (0 : Int32) S46) fun S49 =>
        fn_Mo_onSum_248  S49))
      else
        (if p1 = (10 : Int32) then
          (wd_d (fn_Mo_onAtom  S) fun S43 =>
          fn_Mo_onSum_248  S43)
        else
          (if p1 = (12 : Int32) then
            (wd_c (fn_Mo_last  S) fun x25 S24 =>
            (wd_c (fn_Mo_last  S24) fun x28 S27 =>
            (if x28 < 0 ∨ 15010 ≤ x28.toNatClampNeg then none else
            (wd_c (fn_Mo_node (1 : Int32) (S27.1 147 x28.toNatClampNeg) S27) fun x32 S31 =>
            (if x32 < 0 ∨ 15010 ≤ x32.toNatClampNeg then none else
            (wd_b (wd_i S31 144 x32.toNatClampNeg x28) fun S35 =>
            (if x32 < 0 ∨ 15010 ≤ x32.toNatClampNeg then none else
            (wd_b (wd_i S35 145 x32.toNatClampNeg x25) fun S37 =>
            (if x32 < 0 ∨ 15010 ≤ x32.toNatClampNeg then none else
            (wd_b (wd_i S37 146 x32.toNatClampNeg p2) fun S39 =>
            (wd_d (fn_Mo_keep x32 S39) fun S40 =>
            fn_Mo_onSum_248  S40)))))))))))
          else
            (if p1 = (11 : Int32) then
              (if (S.1 135 4) = (22 : Int32) then
                fn_Mo_onSum_205 p1 S
              else
                (if (S.1 135 4) = (12 : Int32) then
                  fn_Mo_onSum_205 p1 S
                else
                  fn_Mo_onSum_248  S))
            else
              (if p1 = (7 : Int32) then
                (if (S.1 135 4) = (19 : Int32) then
                  fn_Mo_onSum_205 p1 S
                else
                  (if (S.1 135 4) = (20 : Int32) then
                    fn_Mo_onSum_205 p1 S
                  else
                    fn_Mo_onSum_248  S))
              else
                (if (S.1 135 4) = (21 : Int32) then
                  fn_Mo_onSum_205 p1 S
                else
                  fn_Mo_onSum_248  S))))))))
set_option maxRecDepth 100000 in
theorem sn_Mo_onSum {L : Nat} {xs : Nat → Int32} {p1 : Int32} {p2 : Int32} {S : wd_S} {S' : wd_S} (h : fn_Mo_onSum p1 p2 S = some S') : ev_r tb_P L xs (6 + 1) 167 [.ref 135, .int p1, .int p2] (wd_k S) (.inl none, wd_k S') := by
  unfold fn_Mo_onSum at h
  refine ev_of (Nat.le_of_ble_eq_true rfl) ?_
  show go_r tb_P L xs 6 167 0 [(0, .ref 135), (1, .int p1), (2, .int p2)] [] (wd_k S) (.inl none, wd_k S')
  refine bk_b (q := (2, [(0, .ref 135), (1, .int p1), (2, .int p2)], [.int (5 : Int32), .int p1])) tb_c_167_0 mx_167 2 rfl ?_
  by_cases g1 : p1 = (5 : Int32)
  · rw [if_pos g1] at h
    refine bk_jf tb_c_167_0 rfl (pc' := 5) rfl (t := 18) rfl (cm_ne_f g1) ?_
    refine bk_b (q := (7, [(0, .ref 135), (1, .int p1), (2, .int p2)], [.ref 135, .ref 135])) tb_c_167_0 mx_167 2 rfl ?_
    refine bk_gi tb_c_167_0 rfl rfl (ci := 11) (k := 38) rfl rfl rfl ?_
    refine bk_b (q := (12, [(0, .ref 135), (1, .int p1), (2, .int p2)], [.int ((S.1 135 38) - (1 : Int32)), .ref 135])) tb_c_167_0 mx_167 2 rfl ?_
    obtain ⟨S58, eS58, h⟩ := wd_bx h
    refine bk_pi tb_c_167_0 rfl rfl (ci := 11) (k := 38) rfl rfl rfl rfl ?_
    rw [eS58]
    refine bk_b (q := (248, [(0, .ref 135), (1, .int p1), (2, .int p2)], [])) tb_c_167_0 mx_167 1 rfl ?_
    exact go_lv ls_nil (sn_Mo_onSum_248 h)
  · rw [if_neg g1] at h
    refine bk_jt tb_c_167_0 rfl (pc' := 18) rfl (cm_ne_t g1) ?_
    refine bk_b (q := (21, [(0, .ref 135), (1, .int p1), (2, .int p2)], [.int (6 : Int32), .int p1])) tb_c_167_0 mx_167 2 rfl ?_
    by_cases g2 : p1 = (6 : Int32)
    · rw [if_pos g2] at h
      refine bk_jf tb_c_167_0 rfl (pc' := 24) rfl (t := 41) rfl (cm_ne_f g2) ?_
      refine bk_b (q := (28, [(0, .ref 135), (1, .int p1), (2, .int p2)], [.int (0 : Int32), .int (7 : Int32), .ref 135])) tb_c_167_0 mx_167 3 rfl ?_
      obtain ⟨S52, c54, h⟩ := wd_dx h
      refine bk_kv tb_c_167_0 rfl rfl rfl rfl rfl (ci := 11) rfl rfl (ev_up (Nat.le_of_ble_eq_true rfl) (sn_Mo_push c54)) ?_
      refine bk_b (q := (35, [(0, .ref 135), (1, .int p1), (2, .int p2)], [.int (0 : Int32), .int (8 : Int32), .ref 135])) tb_c_167_0 mx_167 3 rfl ?_
      obtain ⟨S55, c57, h⟩ := wd_dx h
      refine bk_kv tb_c_167_0 rfl rfl rfl rfl rfl (ci := 11) rfl rfl (ev_up (Nat.le_of_ble_eq_true rfl) (sn_Mo_push c57)) ?_
      refine bk_b (q := (248, [(0, .ref 135), (1, .int p1), (2, .int p2)], [])) tb_c_167_0 mx_167 1 rfl ?_
      exact go_lv ls_nil (sn_Mo_onSum_248 h)
    · rw [if_neg g2] at h
      refine bk_jt tb_c_167_0 rfl (pc' := 41) rfl (cm_ne_t g2) ?_
      refine bk_b (q := (44, [(0, .ref 135), (1, .int p1), (2, .int p2)], [.int (8 : Int32), .int p1])) tb_c_167_0 mx_167 2 rfl ?_
      by_cases g3 : p1 = (8 : Int32)
      · rw [if_pos g3] at h
        refine bk_jf tb_c_167_0 rfl (pc' := 47) rfl (t := 64) rfl (cm_ne_f g3) ?_
        refine bk_b (q := (51, [(0, .ref 135), (1, .int p1), (2, .int p2)], [.int (0 : Int32), .int (9 : Int32), .ref 135])) tb_c_167_0 mx_167 3 rfl ?_
        obtain ⟨S46, c48, h⟩ := wd_dx h
        refine bk_kv tb_c_167_0 rfl rfl rfl rfl rfl (ci := 11) rfl rfl (ev_up (Nat.le_of_ble_eq_true rfl) (sn_Mo_push c48)) ?_
        refine bk_b (q := (58, [(0, .ref 135), (1, .int p1), (2, .int p2)], [.int (0 : Int32), .int (10 : Int32), .ref 135])) tb_c_167_0 mx_167 3 rfl ?_
        obtain ⟨S49, c51, h⟩ := wd_dx h
        refine bk_kv tb_c_167_0 rfl rfl rfl rfl rfl (ci := 11) rfl rfl (ev_up (Nat.le_of_ble_eq_true rfl) (sn_Mo_push c51)) ?_
        refine bk_b (q := (248, [(0, .ref 135), (1, .int p1), (2, .int p2)], [])) tb_c_167_0 mx_167 1 rfl ?_
        exact go_lv ls_nil (sn_Mo_onSum_248 h)
      · rw [if_neg g3] at h
        refine bk_jt tb_c_167_0 rfl (pc' := 64) rfl (cm_ne_t g3) ?_
        refine bk_b (q := (67, [(0, .ref 135), (1, .int p1), (2, .int p2)], [.int (10 : Int32), .int p1])) tb_c_167_0 mx_167 2 rfl ?_
        by_cases g4 : p1 = (10 : Int32)
        · rw [if_pos g4] at h
          refine bk_jf tb_c_167_0 rfl (pc' := 70) rfl (t := 77) rfl (cm_ne_f g4) ?_
          refine bk_b (q := (71, [(0, .ref 135), (1, .int p1), (2, .int p2)], [.ref 135])) tb_c_167_0 mx_167 1 rfl ?_
          obtain ⟨S43, c45, h⟩ := wd_dx h
          refine bk_kv tb_c_167_0 rfl rfl rfl rfl rfl (ci := 11) rfl rfl (ev_up (Nat.le_of_ble_eq_true rfl) (sn_Mo_onAtom c45)) ?_
          refine bk_b (q := (248, [(0, .ref 135), (1, .int p1), (2, .int p2)], [])) tb_c_167_0 mx_167 1 rfl ?_
          exact go_lv ls_nil (sn_Mo_onSum_248 h)
        · rw [if_neg g4] at h
          refine bk_jt tb_c_167_0 rfl (pc' := 77) rfl (cm_ne_t g4) ?_
          refine bk_b (q := (80, [(0, .ref 135), (1, .int p1), (2, .int p2)], [.int (12 : Int32), .int p1])) tb_c_167_1 mx_167 2 rfl ?_
          by_cases g5 : p1 = (12 : Int32)
          · rw [if_pos g5] at h
            refine bk_jf tb_c_167_1 rfl (pc' := 83) rfl (t := 142) rfl (cm_ne_f g5) ?_
            refine bk_b (q := (84, [(0, .ref 135), (1, .int p1), (2, .int p2)], [.ref 135])) tb_c_167_1 mx_167 1 rfl ?_
            obtain ⟨x25, S24, c26, h⟩ := wd_cx h
            refine bk_kv tb_c_167_1 rfl rfl rfl rfl rfl (ci := 11) rfl rfl (ev_up (Nat.le_of_ble_eq_true rfl) (sn_Mo_last c26)) ?_
            refine bk_b (q := (89, [(3, .int x25), (0, .ref 135), (1, .int p1), (2, .int p2)], [.ref 135])) tb_c_167_1 mx_167 2 rfl ?_
            obtain ⟨x28, S27, c29, h⟩ := wd_cx h
            refine bk_kv tb_c_167_1 rfl rfl rfl rfl rfl (ci := 11) rfl rfl (ev_up (Nat.le_of_ble_eq_true rfl) (sn_Mo_last c29)) ?_
            refine bk_b (q := (97, [(4, .int x28), (3, .int x25), (0, .ref 135), (1, .int p1), (2, .int p2)], [.ref 135, .int (1 : Int32), .ref 135])) tb_c_167_1 mx_167 4 rfl ?_
            refine bk_gc tb_c_167_1 rfl rfl (ci := 11) (k := 21) rfl rfl rfl ?_
            refine bk_b (q := (102, [(4, .int x28), (3, .int x25), (0, .ref 135), (1, .int p1), (2, .int p2)], [.int x28, .ref 147, .int (1 : Int32), .ref 135])) tb_c_167_1 mx_167 1 rfl ?_
            by_cases g30 : x28 < 0 ∨ 15010 ≤ x28.toNatClampNeg
            · rw [if_pos g30] at h; cases h
            · rw [if_neg g30] at h
              refine bk_a4 tb_c_167_1 rfl rfl rfl g30 ?_
              obtain ⟨x32, S31, c33, h⟩ := wd_cx h
              refine bk_kv tb_c_167_1 rfl rfl rfl rfl rfl (ci := 11) rfl rfl (ev_up (Nat.le_of_ble_eq_true rfl) (sn_Mo_node c33)) ?_
              refine bk_b (q := (109, [(5, .int x32), (4, .int x28), (3, .int x25), (0, .ref 135), (1, .int p1), (2, .int p2)], [.ref 135])) tb_c_167_1 mx_167 2 rfl ?_
              refine bk_gc tb_c_167_1 rfl rfl (ci := 11) (k := 18) rfl rfl rfl ?_
              refine bk_b (q := (116, [(5, .int x32), (4, .int x28), (3, .int x25), (0, .ref 135), (1, .int p1), (2, .int p2)], [.int x28, .int x32, .ref 144])) tb_c_167_1 mx_167 2 rfl ?_
              by_cases g34 : x32 < 0 ∨ 15010 ≤ x32.toNatClampNeg
              · rw [if_pos g34] at h; cases h
              · rw [if_neg g34] at h
                obtain ⟨S35, eS35, h⟩ := wd_bx h
                refine bk_s4 tb_c_167_1 rfl rfl rfl g34 ?_
                rw [eS35]
                refine bk_b (q := (118, [(5, .int x32), (4, .int x28), (3, .int x25), (0, .ref 135), (1, .int p1), (2, .int p2)], [.ref 135])) tb_c_167_1 mx_167 1 rfl ?_
                refine bk_gc tb_c_167_1 rfl rfl (ci := 11) (k := 19) rfl rfl rfl ?_
                refine bk_b (q := (124, [(5, .int x32), (4, .int x28), (3, .int x25), (0, .ref 135), (1, .int p1), (2, .int p2)], [.int x25, .int x32, .ref 145])) tb_c_167_1 mx_167 2 rfl ?_
                by_cases g36 : x32 < 0 ∨ 15010 ≤ x32.toNatClampNeg
                · rw [if_pos g36] at h; cases h
                · rw [if_neg g36] at h
                  obtain ⟨S37, eS37, h⟩ := wd_bx h
                  refine bk_s4 tb_c_167_1 rfl rfl rfl g36 ?_
                  rw [eS37]
                  refine bk_b (q := (126, [(5, .int x32), (4, .int x28), (3, .int x25), (0, .ref 135), (1, .int p1), (2, .int p2)], [.ref 135])) tb_c_167_1 mx_167 1 rfl ?_
                  refine bk_gc tb_c_167_1 rfl rfl (ci := 11) (k := 20) rfl rfl rfl ?_
                  refine bk_b (q := (132, [(5, .int x32), (4, .int x28), (3, .int x25), (0, .ref 135), (1, .int p1), (2, .int p2)], [.int p2, .int x32, .ref 146])) tb_c_167_1 mx_167 2 rfl ?_
                  by_cases g38 : x32 < 0 ∨ 15010 ≤ x32.toNatClampNeg
                  · rw [if_pos g38] at h; cases h
                  · rw [if_neg g38] at h
                    obtain ⟨S39, eS39, h⟩ := wd_bx h
                    refine bk_s4 tb_c_167_1 rfl rfl rfl g38 ?_
                    rw [eS39]
                    refine bk_b (q := (136, [(5, .int x32), (4, .int x28), (3, .int x25), (0, .ref 135), (1, .int p1), (2, .int p2)], [.int x32, .ref 135])) tb_c_167_1 mx_167 2 rfl ?_
                    obtain ⟨S40, c42, h⟩ := wd_dx h
                    refine bk_kv tb_c_167_1 rfl rfl rfl rfl rfl (ci := 11) rfl rfl (ev_up (Nat.le_of_ble_eq_true rfl) (sn_Mo_keep c42)) ?_
                    refine bk_b (q := (248, [(5, .int x32), (4, .int x28), (3, .int x25), (0, .ref 135), (1, .int p1), (2, .int p2)], [])) tb_c_167_1 mx_167 1 rfl ?_
                    exact go_lv ls_nil (sn_Mo_onSum_248 h)
          · rw [if_neg g5] at h
            refine bk_jt tb_c_167_1 rfl (pc' := 142) rfl (cm_ne_t g5) ?_
            refine bk_b (q := (145, [(0, .ref 135), (1, .int p1), (2, .int p2)], [.int (11 : Int32), .int p1])) tb_c_167_1 mx_167 2 rfl ?_
            by_cases g6 : p1 = (11 : Int32)
            · rw [if_pos g6] at h
              refine bk_jf tb_c_167_1 rfl (pc' := 148) rfl (t := 169) rfl (cm_ne_f g6) ?_
              refine bk_b (q := (149, [(0, .ref 135), (1, .int p1), (2, .int p2)], [.ref 135])) tb_c_167_1 mx_167 1 rfl ?_
              refine bk_gi tb_c_167_2 rfl rfl (ci := 11) (k := 4) rfl rfl rfl ?_
              refine bk_b (q := (154, [(0, .ref 135), (1, .int p1), (2, .int p2)], [.int (22 : Int32), .int (S.1 135 4)])) tb_c_167_2 mx_167 1 rfl ?_
              by_cases g22 : (S.1 135 4) = (22 : Int32)
              · rw [if_pos g22] at h
                refine bk_jt tb_c_167_2 rfl (pc' := 205) rfl (cm_eq_t g22) ?_
                exact go_lv (ls_sc rfl rfl (ls_sc rfl rfl ls_nil)) (sn_Mo_onSum_205 h)
              · rw [if_neg g22] at h
                refine bk_jf tb_c_167_2 rfl (pc' := 157) rfl (t := 205) rfl (cm_eq_f g22) ?_
                refine bk_b (q := (158, [(0, .ref 135), (1, .int p1), (2, .int p2)], [.ref 135])) tb_c_167_2 mx_167 1 rfl ?_
                refine bk_gi tb_c_167_2 rfl rfl (ci := 11) (k := 4) rfl rfl rfl ?_
                refine bk_b (q := (163, [(0, .ref 135), (1, .int p1), (2, .int p2)], [.int (12 : Int32), .int (S.1 135 4)])) tb_c_167_2 mx_167 1 rfl ?_
                by_cases g23 : (S.1 135 4) = (12 : Int32)
                · rw [if_pos g23] at h
                  refine bk_jf tb_c_167_2 rfl (pc' := 166) rfl (t := 248) rfl (cm_ne_f g23) ?_
                  refine bk_b (q := (205, [(0, .ref 135), (1, .int p1), (2, .int p2)], [])) tb_c_167_2 mx_167 1 rfl ?_
                  exact go_lv (ls_sc rfl rfl (ls_sc rfl rfl ls_nil)) (sn_Mo_onSum_205 h)
                · rw [if_neg g23] at h
                  refine bk_jt tb_c_167_2 rfl (pc' := 248) rfl (cm_ne_t g23) ?_
                  exact go_lv ls_nil (sn_Mo_onSum_248 h)
            · rw [if_neg g6] at h
              refine bk_jt tb_c_167_1 rfl (pc' := 169) rfl (cm_ne_t g6) ?_
              refine bk_b (q := (172, [(0, .ref 135), (1, .int p1), (2, .int p2)], [.int (7 : Int32), .int p1])) tb_c_167_2 mx_167 2 rfl ?_
              by_cases g7 : p1 = (7 : Int32)
              · rw [if_pos g7] at h
                refine bk_jf tb_c_167_2 rfl (pc' := 175) rfl (t := 196) rfl (cm_ne_f g7) ?_
                refine bk_b (q := (176, [(0, .ref 135), (1, .int p1), (2, .int p2)], [.ref 135])) tb_c_167_2 mx_167 1 rfl ?_
                refine bk_gi tb_c_167_2 rfl rfl (ci := 11) (k := 4) rfl rfl rfl ?_
                refine bk_b (q := (181, [(0, .ref 135), (1, .int p1), (2, .int p2)], [.int (19 : Int32), .int (S.1 135 4)])) tb_c_167_2 mx_167 1 rfl ?_
                by_cases g20 : (S.1 135 4) = (19 : Int32)
                · rw [if_pos g20] at h
                  refine bk_jt tb_c_167_2 rfl (pc' := 205) rfl (cm_eq_t g20) ?_
                  exact go_lv (ls_sc rfl rfl (ls_sc rfl rfl ls_nil)) (sn_Mo_onSum_205 h)
                · rw [if_neg g20] at h
                  refine bk_jf tb_c_167_2 rfl (pc' := 184) rfl (t := 205) rfl (cm_eq_f g20) ?_
                  refine bk_b (q := (185, [(0, .ref 135), (1, .int p1), (2, .int p2)], [.ref 135])) tb_c_167_2 mx_167 1 rfl ?_
                  refine bk_gi tb_c_167_2 rfl rfl (ci := 11) (k := 4) rfl rfl rfl ?_
                  refine bk_b (q := (190, [(0, .ref 135), (1, .int p1), (2, .int p2)], [.int (20 : Int32), .int (S.1 135 4)])) tb_c_167_2 mx_167 1 rfl ?_
                  by_cases g21 : (S.1 135 4) = (20 : Int32)
                  · rw [if_pos g21] at h
                    refine bk_jf tb_c_167_2 rfl (pc' := 193) rfl (t := 248) rfl (cm_ne_f g21) ?_
                    refine bk_b (q := (205, [(0, .ref 135), (1, .int p1), (2, .int p2)], [])) tb_c_167_2 mx_167 1 rfl ?_
                    exact go_lv (ls_sc rfl rfl (ls_sc rfl rfl ls_nil)) (sn_Mo_onSum_205 h)
                  · rw [if_neg g21] at h
                    refine bk_jt tb_c_167_2 rfl (pc' := 248) rfl (cm_ne_t g21) ?_
                    exact go_lv ls_nil (sn_Mo_onSum_248 h)
              · rw [if_neg g7] at h
                refine bk_jt tb_c_167_2 rfl (pc' := 196) rfl (cm_ne_t g7) ?_
                refine bk_b (q := (197, [(0, .ref 135), (1, .int p1), (2, .int p2)], [.ref 135])) tb_c_167_2 mx_167 1 rfl ?_
                refine bk_gi tb_c_167_2 rfl rfl (ci := 11) (k := 4) rfl rfl rfl ?_
                refine bk_b (q := (202, [(0, .ref 135), (1, .int p1), (2, .int p2)], [.int (21 : Int32), .int (S.1 135 4)])) tb_c_167_2 mx_167 1 rfl ?_
                by_cases g8 : (S.1 135 4) = (21 : Int32)
                · rw [if_pos g8] at h
                  refine bk_jf tb_c_167_2 rfl (pc' := 205) rfl (t := 248) rfl (cm_ne_f g8) ?_
                  exact go_lv (ls_sc rfl rfl (ls_sc rfl rfl ls_nil)) (sn_Mo_onSum_205 h)
                · rw [if_neg g8] at h
                  refine bk_jt tb_c_167_2 rfl (pc' := 248) rfl (cm_ne_t g8) ?_
                  exact go_lv ls_nil (sn_Mo_onSum_248 h)
