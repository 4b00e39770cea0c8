/-! Methods as functions: printed by wip/whole/gen_fn.py. -/
theorem mx_150 : mi_mx tb_P 150 = 1 := rfl
noncomputable def fn_Mo_read_168 (S : wd_S) : Option (Int32 × wd_S) :=
  (wd_b (wd_i S 135 2 (0 : Int32)) fun S21 =>
  (if (S21.1 135 9) = 0 then
    (wd_b (wd_i S21 135 42 (S21.1 135 25)) fun S23 =>
    (if (S23.1 135 42) < 0 ∨ 2 ≤ (S23.1 135 42).toNatClampNeg then none else
    (wd_b (wd_i S23 150 (S23.1 135 42).toNatClampNeg (S23.1 135 26)) fun S25 =>
    (wd_b (wd_i S25 135 41 (1 : Int32)) fun S26 =>
    (wd_b (wd_i S26 135 59 (0 : Int32)) fun S27 =>
    (wd_b (wd_i S27 135 60 (0 : Int32)) fun S28 =>
    (wd_b (wd_i S28 135 61 (0 : Int32)) fun S29 =>
    (wd_b (wd_i S29 135 62 (0 : Int32)) fun S30 =>
    (wd_b (wd_i S30 135 72 (0 : Int32)) fun S31 =>
    some (S31.1 135 26, S31))))))))))
  else
    some ((-(S21.1 135 9)), S21)))
set_option maxRecDepth 100000 in
theorem sn_Mo_read_168 {L : Nat} {xs : Nat → Int32} {S : wd_S} {x : Int32} {S' : wd_S} (h : fn_Mo_read_168  S = some (x, S')) : go_r tb_P L xs 9 150 168 [(0, .ref 135)] [] (wd_k S) (.inl (some (.int x)), wd_k S') := by
  unfold fn_Mo_read_168 at h
  refine bk_b (q := (170, [(0, .ref 135)], [.int (0 : Int32), .ref 135])) tb_c_150_2 mx_150 2 rfl ?_
  obtain ⟨S21, eS21, h⟩ := wd_bx h
  refine bk_pi tb_c_150_2 rfl rfl (ci := 11) (k := 2) rfl rfl rfl rfl ?_
  rw [eS21]
  refine bk_b (q := (174, [(0, .ref 135)], [.ref 135])) tb_c_150_2 mx_150 1 rfl ?_
  refine bk_gi tb_c_150_2 rfl rfl (ci := 11) (k := 9) rfl rfl rfl ?_
  by_cases g22 : (S21.1 135 9) = 0
  · rw [if_pos g22] at h
    refine bk_zt tb_c_150_2 rfl (pc' := 186) rfl (cm_eq_t g22) ?_
    refine bk_b (q := (188, [(0, .ref 135)], [.ref 135, .ref 135])) tb_c_150_2 mx_150 2 rfl ?_
    refine bk_gi tb_c_150_2 rfl rfl (ci := 11) (k := 25) rfl rfl rfl ?_
    obtain ⟨S23, eS23, h⟩ := wd_bx h
    refine bk_pi tb_c_150_2 rfl rfl (ci := 11) (k := 42) rfl rfl rfl rfl ?_
    rw [eS23]
    refine bk_b (q := (195, [(0, .ref 135)], [.ref 135])) tb_c_150_2 mx_150 1 rfl ?_
    refine bk_gc tb_c_150_2 rfl rfl (ci := 11) (k := 24) rfl rfl rfl ?_
    refine bk_b (q := (199, [(0, .ref 135)], [.ref 135, .ref 150])) tb_c_150_2 mx_150 1 rfl ?_
    refine bk_gi tb_c_150_2 rfl rfl (ci := 11) (k := 42) rfl rfl rfl ?_
    refine bk_b (q := (203, [(0, .ref 135)], [.ref 135, .int (S23.1 135 42), .ref 150])) tb_c_150_2 mx_150 1 rfl ?_
    refine bk_gi tb_c_150_2 rfl rfl (ci := 11) (k := 26) rfl rfl rfl ?_
    by_cases g24 : (S23.1 135 42) < 0 ∨ 2 ≤ (S23.1 135 42).toNatClampNeg
    · rw [if_pos g24] at h; cases h
    · rw [if_neg g24] at h
      obtain ⟨S25, eS25, h⟩ := wd_bx h
      refine bk_s4 tb_c_150_2 rfl rfl rfl g24 ?_
      rw [eS25]
      refine bk_b (q := (209, [(0, .ref 135)], [.int (1 : Int32), .ref 135])) tb_c_150_2 mx_150 2 rfl ?_
      obtain ⟨S26, eS26, h⟩ := wd_bx h
      refine bk_pi tb_c_150_2 rfl rfl (ci := 11) (k := 41) rfl rfl rfl rfl ?_
      rw [eS26]
      refine bk_b (q := (214, [(0, .ref 135)], [.int (0 : Int32), .ref 135])) tb_c_150_2 mx_150 2 rfl ?_
      obtain ⟨S27, eS27, h⟩ := wd_bx h
      refine bk_pi tb_c_150_2 rfl rfl (ci := 11) (k := 59) rfl rfl rfl rfl ?_
      rw [eS27]
      refine bk_b (q := (219, [(0, .ref 135)], [.int (0 : Int32), .ref 135])) tb_c_150_2 mx_150 2 rfl ?_
      obtain ⟨S28, eS28, h⟩ := wd_bx h
      refine bk_pi tb_c_150_2 rfl rfl (ci := 11) (k := 60) rfl rfl rfl rfl ?_
      rw [eS28]
      refine bk_b (q := (224, [(0, .ref 135)], [.int (0 : Int32), .ref 135])) tb_c_150_2 mx_150 2 rfl ?_
      obtain ⟨S29, eS29, h⟩ := wd_bx h
      refine bk_pi tb_c_150_2 rfl rfl (ci := 11) (k := 61) rfl rfl rfl rfl ?_
      rw [eS29]
      refine bk_b (q := (229, [(0, .ref 135)], [.int (0 : Int32), .ref 135])) tb_c_150_3 mx_150 2 rfl ?_
      obtain ⟨S30, eS30, h⟩ := wd_bx h
      refine bk_pi tb_c_150_3 rfl rfl (ci := 11) (k := 62) rfl rfl rfl rfl ?_
      rw [eS30]
      refine bk_b (q := (234, [(0, .ref 135)], [.int (0 : Int32), .ref 135])) tb_c_150_3 mx_150 2 rfl ?_
      obtain ⟨S31, eS31, h⟩ := wd_bx h
      refine bk_pi tb_c_150_3 rfl rfl (ci := 11) (k := 72) rfl rfl rfl rfl ?_
      rw [eS31]
      refine bk_b (q := (238, [(0, .ref 135)], [.ref 135])) tb_c_150_3 mx_150 1 rfl ?_
      refine bk_gi tb_c_150_3 rfl rfl (ci := 11) (k := 26) rfl rfl rfl ?_
      cases h
      exact bk_t tb_c_150_3 rfl rfl
  · rw [if_neg g22] at h
    refine bk_zf tb_c_150_2 rfl (pc' := 180) rfl (t := 186) rfl (cm_eq_f g22) ?_
    refine bk_b (q := (181, [(0, .ref 135)], [.ref 135])) tb_c_150_2 mx_150 1 rfl ?_
    refine bk_gi tb_c_150_2 rfl rfl (ci := 11) (k := 9) rfl rfl rfl ?_
    refine bk_b (q := (185, [(0, .ref 135)], [.int (-(S21.1 135 9))])) tb_c_150_2 mx_150 1 rfl ?_
    cases h
    exact bk_t tb_c_150_2 rfl rfl
noncomputable def fn_Mo_read_125 : Nat → wd_S → Option (Int32 × wd_S)
  | 0, _ => none
  | n + 1, S =>
    (if (S.1 135 31) < (((48 : Int32) * (S.1 135 25)) + (S.1 135 26)) then
      (if (S.1 135 9) = 0 then
        (wd_d (fn_Mo_judge  S) fun S33 =>
        (wd_b (wd_i S33 135 31 ((S33.1 135 31) + (1 : Int32))) fun S36 =>
        fn_Mo_read_125 n  S36))
      else
        fn_Mo_read_168  S)
    else
      fn_Mo_read_168  S)
set_option maxRecDepth 100000 in
theorem sn_Mo_read_125 {L : Nat} {xs : Nat → Int32} : ∀ (n : Nat) {S : wd_S} {x : Int32} {S' : wd_S}, fn_Mo_read_125 n  S = some (x, S') → go_r tb_P L xs 9 150 125 [(0, .ref 135)] [] (wd_k S) (.inl (some (.int x)), wd_k S') := by
  intro n
  induction n with
  | zero => intro  S x S'  h; cases h
  | succ n ih =>
    intro  S x S'  h
    rw [fn_Mo_read_125] at h
    refine bk_b (q := (126, [(0, .ref 135)], [.ref 135])) tb_c_150_1 mx_150 1 rfl ?_
    refine bk_gi tb_c_150_1 rfl rfl (ci := 11) (k := 31) rfl rfl rfl ?_
    refine bk_b (q := (132, [(0, .ref 135)], [.ref 135, .int (48 : Int32), .int (S.1 135 31)])) tb_c_150_1 mx_150 2 rfl ?_
    refine bk_gi tb_c_150_1 rfl rfl (ci := 11) (k := 25) rfl rfl rfl ?_
    refine bk_b (q := (137, [(0, .ref 135)], [.ref 135, .int ((48 : Int32) * (S.1 135 25)), .int (S.1 135 31)])) tb_c_150_1 mx_150 2 rfl ?_
    refine bk_gi tb_c_150_1 rfl rfl (ci := 11) (k := 26) rfl rfl rfl ?_
    refine bk_b (q := (141, [(0, .ref 135)], [.int (((48 : Int32) * (S.1 135 25)) + (S.1 135 26)), .int (S.1 135 31)])) tb_c_150_1 mx_150 1 rfl ?_
    by_cases g20 : (S.1 135 31) < (((48 : Int32) * (S.1 135 25)) + (S.1 135 26))
    · rw [if_pos g20] at h
      refine bk_jf tb_c_150_1 rfl (pc' := 144) rfl (t := 168) rfl (cm_ge_f g20) ?_
      refine bk_b (q := (145, [(0, .ref 135)], [.ref 135])) tb_c_150_1 mx_150 1 rfl ?_
      refine bk_gi tb_c_150_1 rfl rfl (ci := 11) (k := 9) rfl rfl rfl ?_
      by_cases g32 : (S.1 135 9) = 0
      · rw [if_pos g32] at h
        refine bk_zf tb_c_150_1 rfl (pc' := 151) rfl (t := 168) rfl (cm_ne_f g32) ?_
        refine bk_b (q := (152, [(0, .ref 135)], [.ref 135])) tb_c_150_1 mx_150 1 rfl ?_
        obtain ⟨S33, c35, h⟩ := wd_dx h
        refine bk_kv tb_c_150_1 rfl rfl rfl rfl rfl (ci := 11) rfl rfl (ev_up (Nat.le_of_ble_eq_true rfl) (sn_Mo_judge c35)) ?_
        refine bk_b (q := (157, [(0, .ref 135)], [.ref 135, .ref 135])) tb_c_150_2 mx_150 2 rfl ?_
        refine bk_gi tb_c_150_2 rfl rfl (ci := 11) (k := 31) rfl rfl rfl ?_
        refine bk_b (q := (162, [(0, .ref 135)], [.int ((S33.1 135 31) + (1 : Int32)), .ref 135])) tb_c_150_2 mx_150 2 rfl ?_
        obtain ⟨S36, eS36, h⟩ := wd_bx h
        refine bk_pi tb_c_150_2 rfl rfl (ci := 11) (k := 31) rfl rfl rfl rfl ?_
        rw [eS36]
        refine bk_b (q := (125, [(0, .ref 135)], [])) tb_c_150_2 mx_150 1 rfl ?_
        exact go_lv (ls_sc rfl rfl ls_nil) (ih h)
      · rw [if_neg g32] at h
        refine bk_zt tb_c_150_1 rfl (pc' := 168) rfl (cm_ne_t g32) ?_
        exact go_lv (ls_sc rfl rfl ls_nil) (sn_Mo_read_168 h)
    · rw [if_neg g20] at h
      refine bk_jt tb_c_150_1 rfl (pc' := 168) rfl (cm_ge_t g20) ?_
      exact go_lv (ls_sc rfl rfl ls_nil) (sn_Mo_read_168 h)
noncomputable def fn_Mo_read_114 (S : wd_S) : Option (Int32 × wd_S) :=
  (wd_b (wd_i S 135 31 ((48 : Int32) * (S.1 135 25))) fun S19 =>
  fn_Mo_read_125 wd_F  S19)
set_option maxRecDepth 100000 in
theorem sn_Mo_read_114 {L : Nat} {xs : Nat → Int32} {S : wd_S} {x : Int32} {S' : wd_S} (h : fn_Mo_read_114  S = some (x, S')) : go_r tb_P L xs 9 150 114 [(0, .ref 135)] [] (wd_k S) (.inl (some (.int x)), wd_k S') := by
  unfold fn_Mo_read_114 at h
  refine bk_b (q := (118, [(0, .ref 135)], [.ref 135, .int (48 : Int32), .ref 135])) tb_c_150_1 mx_150 3 rfl ?_
  refine bk_gi tb_c_150_1 rfl rfl (ci := 11) (k := 25) rfl rfl rfl ?_
  refine bk_b (q := (122, [(0, .ref 135)], [.int ((48 : Int32) * (S.1 135 25)), .ref 135])) tb_c_150_1 mx_150 1 rfl ?_
  obtain ⟨S19, eS19, h⟩ := wd_bx h
  refine bk_pi tb_c_150_1 rfl rfl (ci := 11) (k := 31) rfl rfl rfl rfl ?_
  rw [eS19]
  exact go_lv (ls_sc rfl rfl ls_nil) (sn_Mo_read_125 wd_F h)
noncomputable def fn_Mo_read_91 : Nat → wd_S → Option (Int32 × wd_S)
  | 0, _ => none
  | n + 1, S =>
    (if (S.1 135 9) = 0 then
      (if (S.1 135 4) = (23 : Int32) then
        fn_Mo_read_114  S
      else
        (wd_d (fn_Mo_definition  S) fun S38 =>
        fn_Mo_read_91 n  S38))
    else
      fn_Mo_read_114  S)
set_option maxRecDepth 100000 in
theorem sn_Mo_read_91 {L : Nat} {xs : Nat → Int32} : ∀ (n : Nat) {S : wd_S} {x : Int32} {S' : wd_S}, fn_Mo_read_91 n  S = some (x, S') → go_r tb_P L xs 9 150 91 [(0, .ref 135)] [] (wd_k S) (.inl (some (.int x)), wd_k S') := by
  intro n
  induction n with
  | zero => intro  S x S'  h; cases h
  | succ n ih =>
    intro  S x S'  h
    rw [fn_Mo_read_91] at h
    refine bk_b (q := (92, [(0, .ref 135)], [.ref 135])) tb_c_150_1 mx_150 1 rfl ?_
    refine bk_gi tb_c_150_1 rfl rfl (ci := 11) (k := 9) rfl rfl rfl ?_
    by_cases g18 : (S.1 135 9) = 0
    · rw [if_pos g18] at h
      refine bk_zf tb_c_150_1 rfl (pc' := 98) rfl (t := 114) rfl (cm_ne_f g18) ?_
      refine bk_b (q := (99, [(0, .ref 135)], [.ref 135])) tb_c_150_1 mx_150 1 rfl ?_
      refine bk_gi tb_c_150_1 rfl rfl (ci := 11) (k := 4) rfl rfl rfl ?_
      refine bk_b (q := (104, [(0, .ref 135)], [.int (23 : Int32), .int (S.1 135 4)])) tb_c_150_1 mx_150 1 rfl ?_
      by_cases g37 : (S.1 135 4) = (23 : Int32)
      · rw [if_pos g37] at h
        refine bk_jt tb_c_150_1 rfl (pc' := 114) rfl (cm_eq_t g37) ?_
        exact go_lv (ls_sc rfl rfl ls_nil) (sn_Mo_read_114 h)
      · rw [if_neg g37] at h
        refine bk_jf tb_c_150_1 rfl (pc' := 107) rfl (t := 114) rfl (cm_eq_f g37) ?_
        refine bk_b (q := (108, [(0, .ref 135)], [.ref 135])) tb_c_150_1 mx_150 1 rfl ?_
        obtain ⟨S38, c40, h⟩ := wd_dx h
        refine bk_kv tb_c_150_1 rfl rfl rfl rfl rfl (ci := 11) rfl rfl (ev_up (Nat.le_of_ble_eq_true rfl) (sn_Mo_definition c40)) ?_
        refine bk_b (q := (91, [(0, .ref 135)], [])) tb_c_150_1 mx_150 1 rfl ?_
        exact go_lv (ls_sc rfl rfl ls_nil) (ih h)
    · rw [if_neg g18] at h
      refine bk_zt tb_c_150_1 rfl (pc' := 114) rfl (cm_ne_t g18) ?_
      exact go_lv (ls_sc rfl rfl ls_nil) (sn_Mo_read_114 h)
noncomputable def fn_Mo_read_26 (s1 : Int32) (S : wd_S) : Option (Int32 × wd_S) :=
  (wd_b (wd_i S 135 25 s1) fun S3 =>
  (wd_b (wd_i S3 135 26 (0 : Int32)) fun S4 =>
  (wd_b (wd_i S4 135 27 ((1501 : Int32) * (S4.1 135 25))) fun S5 =>
  (wd_b (wd_i S5 135 28 ((1501 : Int32) * (S5.1 135 25))) fun S6 =>
  (wd_b (wd_i S6 135 30 (0 : Int32)) fun S7 =>
  (wd_b (wd_i S7 135 3 (0 : Int32)) fun S8 =>
  (wd_b (wd_i S8 135 6 (0 : Int32)) fun S9 =>
  (wd_b (wd_i S9 135 9 (0 : Int32)) fun S10 =>
  (wd_b (wd_i S10 135 10 (-1 : Int32)) fun S11 =>
  (wd_d (fn_Mo_next  S11) fun S12 =>
  (wd_d (fn_Mo_definition  S12) fun S15 =>
  fn_Mo_read_91 wd_F  S15)))))))))))
set_option maxRecDepth 100000 in
theorem sn_Mo_read_26 {L : Nat} {xs : Nat → Int32} {s1 : Int32} {S : wd_S} {x : Int32} {S' : wd_S} (h : fn_Mo_read_26 s1 S = some (x, S')) : go_r tb_P L xs 9 150 26 [(0, .ref 135)] [.int s1, .ref 135] (wd_k S) (.inl (some (.int x)), wd_k S') := by
  unfold fn_Mo_read_26 at h
  obtain ⟨S3, eS3, h⟩ := wd_bx h
  refine bk_pi tb_c_150_0 rfl rfl (ci := 11) (k := 25) rfl rfl rfl rfl ?_
  rw [eS3]
  refine bk_b (q := (31, [(0, .ref 135)], [.int (0 : Int32), .ref 135])) tb_c_150_0 mx_150 2 rfl ?_
  obtain ⟨S4, eS4, h⟩ := wd_bx h
  refine bk_pi tb_c_150_0 rfl rfl (ci := 11) (k := 26) rfl rfl rfl rfl ?_
  rw [eS4]
  refine bk_b (q := (39, [(0, .ref 135)], [.ref 135, .int (1501 : Int32), .ref 135])) tb_c_150_0 mx_150 3 rfl ?_
  refine bk_gi tb_c_150_0 rfl rfl (ci := 11) (k := 25) rfl rfl rfl ?_
  refine bk_b (q := (43, [(0, .ref 135)], [.int ((1501 : Int32) * (S4.1 135 25)), .ref 135])) tb_c_150_0 mx_150 1 rfl ?_
  obtain ⟨S5, eS5, h⟩ := wd_bx h
  refine bk_pi tb_c_150_0 rfl rfl (ci := 11) (k := 27) rfl rfl rfl rfl ?_
  rw [eS5]
  refine bk_b (q := (51, [(0, .ref 135)], [.ref 135, .int (1501 : Int32), .ref 135])) tb_c_150_0 mx_150 3 rfl ?_
  refine bk_gi tb_c_150_0 rfl rfl (ci := 11) (k := 25) rfl rfl rfl ?_
  refine bk_b (q := (55, [(0, .ref 135)], [.int ((1501 : Int32) * (S5.1 135 25)), .ref 135])) tb_c_150_0 mx_150 1 rfl ?_
  obtain ⟨S6, eS6, h⟩ := wd_bx h
  refine bk_pi tb_c_150_0 rfl rfl (ci := 11) (k := 28) rfl rfl rfl rfl ?_
  rw [eS6]
  refine bk_b (q := (60, [(0, .ref 135)], [.int (0 : Int32), .ref 135])) tb_c_150_0 mx_150 2 rfl ?_
  obtain ⟨S7, eS7, h⟩ := wd_bx h
  refine bk_pi tb_c_150_0 rfl rfl (ci := 11) (k := 30) rfl rfl rfl rfl ?_
  rw [eS7]
  refine bk_b (q := (65, [(0, .ref 135)], [.int (0 : Int32), .ref 135])) tb_c_150_0 mx_150 2 rfl ?_
  obtain ⟨S8, eS8, h⟩ := wd_bx h
  refine bk_pi tb_c_150_0 rfl rfl (ci := 11) (k := 3) rfl rfl rfl rfl ?_
  rw [eS8]
  refine bk_b (q := (70, [(0, .ref 135)], [.int (0 : Int32), .ref 135])) tb_c_150_0 mx_150 2 rfl ?_
  obtain ⟨S9, eS9, h⟩ := wd_bx h
  refine bk_pi tb_c_150_0 rfl rfl (ci := 11) (k := 6) rfl rfl rfl rfl ?_
  rw [eS9]
  refine bk_b (q := (74, [(0, .ref 135)], [.ref 135])) tb_c_150_0 mx_150 1 rfl ?_
  refine bk_b (q := (75, [(0, .ref 135)], [.int (0 : Int32), .ref 135])) tb_c_150_1 mx_150 1 rfl ?_
  obtain ⟨S10, eS10, h⟩ := wd_bx h
  refine bk_pi tb_c_150_1 rfl rfl (ci := 11) (k := 9) rfl rfl rfl rfl ?_
  rw [eS10]
  refine bk_b (q := (80, [(0, .ref 135)], [.int (-1 : Int32), .ref 135])) tb_c_150_1 mx_150 2 rfl ?_
  obtain ⟨S11, eS11, h⟩ := wd_bx h
  refine bk_pi tb_c_150_1 rfl rfl (ci := 11) (k := 10) rfl rfl rfl rfl ?_
  rw [eS11]
  refine bk_b (q := (84, [(0, .ref 135)], [.ref 135])) tb_c_150_1 mx_150 1 rfl ?_
  obtain ⟨S12, c14, h⟩ := wd_dx h
  refine bk_kv tb_c_150_1 rfl rfl rfl rfl rfl (ci := 11) rfl rfl (ev_up (Nat.le_of_ble_eq_true rfl) (sn_Mo_next c14)) ?_
  refine bk_b (q := (88, [(0, .ref 135)], [.ref 135])) tb_c_150_1 mx_150 1 rfl ?_
  obtain ⟨S15, c17, h⟩ := wd_dx h
  refine bk_kv tb_c_150_1 rfl rfl rfl rfl rfl (ci := 11) rfl rfl (ev_up (Nat.le_of_ble_eq_true rfl) (sn_Mo_definition c17)) ?_
  exact go_lv (ls_sc rfl rfl ls_nil) (sn_Mo_read_91 wd_F h)
/-- SpecialiserModel.read()I -/
noncomputable def fn_Mo_read (S : wd_S) : Option (Int32 × wd_S) :=
  (wd_b (wd_i S 135 0 (0 : Int32)) fun S1 =>
  (if (S1.1 135 41) = 0 then
    fn_Mo_read_26 (S1.1 135 42) S1
  else
    fn_Mo_read_26 ((1 : Int32) - (S1.1 135 42)) S1))
set_option maxRecDepth 100000 in
theorem sn_Mo_read {L : Nat} {xs : Nat → Int32} {S : wd_S} {x : Int32} {S' : wd_S} (h : fn_Mo_read  S = some (x, S')) : ev_r tb_P L xs (9 + 1) 150 [.ref 135] (wd_k S) (.inl (some (.int x)), wd_k S') := by
  unfold fn_Mo_read at h
  refine ev_of (Nat.le_of_ble_eq_true rfl) ?_
  show go_r tb_P L xs 9 150 0 [(0, .ref 135)] [] (wd_k S) (.inl (some (.int x)), wd_k S')
  refine bk_b (q := (2, [(0, .ref 135)], [.int (0 : Int32), .ref 135])) tb_c_150_0 mx_150 2 rfl ?_
  obtain ⟨S1, eS1, h⟩ := wd_bx h
  refine bk_pi tb_c_150_0 rfl rfl (ci := 11) (k := 0) rfl rfl rfl rfl ?_
  rw [eS1]
  refine bk_b (q := (7, [(0, .ref 135)], [.ref 135, .ref 135])) tb_c_150_0 mx_150 2 rfl ?_
  refine bk_gi tb_c_150_0 rfl rfl (ci := 11) (k := 41) rfl rfl rfl ?_
  by_cases g2 : (S1.1 135 41) = 0
  · rw [if_pos g2] at h
    refine bk_zt tb_c_150_0 rfl (pc' := 22) rfl (cm_eq_t g2) ?_
    refine bk_b (q := (23, [(0, .ref 135)], [.ref 135, .ref 135])) tb_c_150_0 mx_150 1 rfl ?_
    refine bk_gi tb_c_150_0 rfl rfl (ci := 11) (k := 42) rfl rfl rfl ?_
    exact go_lv (ls_sc rfl rfl ls_nil) (sn_Mo_read_26 h)
  · rw [if_neg g2] at h
    refine bk_zf tb_c_150_0 rfl (pc' := 13) rfl (t := 22) rfl (cm_eq_f g2) ?_
    refine bk_b (q := (15, [(0, .ref 135)], [.ref 135, .int (1 : Int32), .ref 135])) tb_c_150_0 mx_150 2 rfl ?_
    refine bk_gi tb_c_150_0 rfl rfl (ci := 11) (k := 42) rfl rfl rfl ?_
    refine bk_b (q := (26, [(0, .ref 135)], [.int ((1 : Int32) - (S1.1 135 42)), .ref 135])) tb_c_150_0 mx_150 2 rfl ?_
    exact go_lv (ls_sc rfl rfl ls_nil) (sn_Mo_read_26 h)
theorem mx_174 : mi_mx tb_P 174 = 1 := rfl
/-- SpecialiserModel.place()I -/
noncomputable def fn_Mo_place (S : wd_S) : Option (Int32 × wd_S) :=
  (wd_b (wd_i S 135 0 (0 : Int32)) fun S1 =>
  some (S1.1 135 10, S1))
set_option maxRecDepth 100000 in
theorem sn_Mo_place {L : Nat} {xs : Nat → Int32} {S : wd_S} {x : Int32} {S' : wd_S} (h : fn_Mo_place  S = some (x, S')) : ev_r tb_P L xs (0 + 1) 174 [.ref 135] (wd_k S) (.inl (some (.int x)), wd_k S') := by
  unfold fn_Mo_place at h
  refine ev_of (Nat.le_of_ble_eq_true rfl) ?_
  show go_r tb_P L xs 0 174 0 [(0, .ref 135)] [] (wd_k S) (.inl (some (.int x)), wd_k S')
  refine bk_b (q := (2, [(0, .ref 135)], [.int (0 : Int32), .ref 135])) tb_c_174_0 mx_174 2 rfl ?_
  obtain ⟨S1, eS1, h⟩ := wd_bx h
  refine bk_pi tb_c_174_0 rfl rfl (ci := 11) (k := 0) rfl rfl rfl rfl ?_
  rw [eS1]
  refine bk_b (q := (6, [(0, .ref 135)], [.ref 135])) tb_c_174_0 mx_174 1 rfl ?_
  refine bk_gi tb_c_174_0 rfl rfl (ci := 11) (k := 10) rfl rfl rfl ?_
  cases h
  exact bk_t tb_c_174_0 rfl rfl
theorem mx_176 : mi_mx tb_P 176 = 2 := rfl
noncomputable def fn_Mo_isFn_33 (s0 : Int32) (S : wd_S) : Option (Int32 × wd_S) :=
  (if mi_fit .boolean (.int s0) = true then some (s0, S) else none)
set_option maxRecDepth 100000 in
theorem sn_Mo_isFn_33 {L : Nat} {xs : Nat → Int32} {s0 : Int32} {S : wd_S} {x : Int32} {S' : wd_S} (h : fn_Mo_isFn_33 s0 S = some (x, S')) : go_r tb_P L xs 1 176 33 [] [.int s0] (wd_k S) (.inl (some (.int x)), wd_k S') := by
  unfold fn_Mo_isFn_33 at h
  by_cases g2 : mi_fit .boolean (.int s0) = true
  · rw [if_pos g2] at h
    cases h
    exact bk_t tb_c_176_0 rfl (if_pos g2)
  · rw [if_neg g2] at h; cases h
noncomputable def fn_Mo_isFn_32 (S : wd_S) : Option (Int32 × wd_S) :=
  fn_Mo_isFn_33 (0 : Int32) S
set_option maxRecDepth 100000 in
theorem sn_Mo_isFn_32 {L : Nat} {xs : Nat → Int32} {S : wd_S} {x : Int32} {S' : wd_S} (h : fn_Mo_isFn_32  S = some (x, S')) : go_r tb_P L xs 1 176 32 [] [] (wd_k S) (.inl (some (.int x)), wd_k S') := by
  unfold fn_Mo_isFn_32 at h
  refine bk_b (q := (33, [], [.int (0 : Int32)])) tb_c_176_0 mx_176 1 rfl ?_
  exact go_lv ls_nil (sn_Mo_isFn_33 h)
/-- SpecialiserModel.isFn(I)Z -/
noncomputable def fn_Mo_isFn (p1 : Int32) (S : wd_S) : Option (Int32 × wd_S) :=
  (if (S.1 135 41) = 0 then
    fn_Mo_isFn_32  S
  else
    (if (S.1 135 42) < 0 ∨ 2 ≤ (S.1 135 42).toNatClampNeg then none else
    (wd_c (fn_Mo_within ((p1).toInt64) (0 : Int64) ((((S.1 150 (S.1 135 42).toNatClampNeg) - (1 : Int32))).toInt64) S) fun x5 S4 =>
    (if x5 = 0 then
      fn_Mo_isFn_32  S4
    else
      fn_Mo_isFn_33 (1 : Int32) S4))))
set_option maxRecDepth 100000 in
theorem sn_Mo_isFn {L : Nat} {xs : Nat → Int32} {p1 : Int32} {S : wd_S} {x : Int32} {S' : wd_S} (h : fn_Mo_isFn p1 S = some (x, S')) : ev_r tb_P L xs (1 + 1) 176 [.ref 135, .int p1] (wd_k S) (.inl (some (.int x)), wd_k S') := by
  unfold fn_Mo_isFn at h
  refine ev_of (Nat.le_of_ble_eq_true rfl) ?_
  show go_r tb_P L xs 1 176 0 [(0, .ref 135), (1, .int p1)] [] (wd_k S) (.inl (some (.int x)), wd_k S')
  refine bk_b (q := (1, [(0, .ref 135), (1, .int p1)], [.ref 135])) tb_c_176_0 mx_176 1 rfl ?_
  refine bk_gi tb_c_176_0 rfl rfl (ci := 11) (k := 41) rfl rfl rfl ?_
  by_cases g1 : (S.1 135 41) = 0
  · rw [if_pos g1] at h
    refine bk_zt tb_c_176_0 rfl (pc' := 32) rfl (cm_eq_t g1) ?_
    exact go_lv ls_nil (sn_Mo_isFn_32 h)
  · rw [if_neg g1] at h
    refine bk_zf tb_c_176_0 rfl (pc' := 7) rfl (t := 32) rfl (cm_eq_f g1) ?_
    refine bk_b (q := (11, [(0, .ref 135), (1, .int p1)], [.ref 135, .long (0 : Int64), .long ((p1).toInt64)])) tb_c_176_0 mx_176 4 rfl ?_
    refine bk_gc tb_c_176_0 rfl rfl (ci := 11) (k := 24) rfl rfl rfl ?_
    refine bk_b (q := (15, [(0, .ref 135), (1, .int p1)], [.ref 135, .ref 150, .long (0 : Int64), .long ((p1).toInt64)])) tb_c_176_0 mx_176 1 rfl ?_
    refine bk_gi tb_c_176_0 rfl rfl (ci := 11) (k := 42) rfl rfl rfl ?_
    by_cases g3 : (S.1 135 42) < 0 ∨ 2 ≤ (S.1 135 42).toNatClampNeg
    · rw [if_pos g3] at h; cases h
    · rw [if_neg g3] at h
      refine bk_a4 tb_c_176_0 rfl rfl rfl g3 ?_
      refine bk_b (q := (22, [(0, .ref 135), (1, .int p1)], [.long ((((S.1 150 (S.1 135 42).toNatClampNeg) - (1 : Int32))).toInt64), .long (0 : Int64), .long ((p1).toInt64)])) tb_c_176_0 mx_176 3 rfl ?_
      obtain ⟨x5, S4, c6, h⟩ := wd_cx h
      refine bk_ks tb_c_176_0 rfl rfl rfl (by decide) rfl rfl (ev_up (Nat.le_of_ble_eq_true rfl) (sn_Mo_within c6)) ?_
      by_cases g7 : x5 = 0
      · rw [if_pos g7] at h
        refine bk_zt tb_c_176_0 rfl (pc' := 32) rfl (cm_eq_t g7) ?_
        exact go_lv ls_nil (sn_Mo_isFn_32 h)
      · rw [if_neg g7] at h
        refine bk_zf tb_c_176_0 rfl (pc' := 28) rfl (t := 32) rfl (cm_eq_f g7) ?_
        refine bk_b (q := (33, [(0, .ref 135), (1, .int p1)], [.int (1 : Int32)])) tb_c_176_0 mx_176 2 rfl ?_
        exact go_lv ls_nil (sn_Mo_isFn_33 h)
theorem mx_175 : mi_mx tb_P 175 = 4 := rfl
noncomputable def fn_Mo_function_88 (s0 : Int32) (S : wd_S) : Option (Int32 × wd_S) :=
  some (s0, S)
set_option maxRecDepth 100000 in
theorem sn_Mo_function_88 {L : Nat} {xs : Nat → Int32} {s0 : Int32} {S : wd_S} {x : Int32} {S' : wd_S} (h : fn_Mo_function_88 s0 S = some (x, S')) : go_r tb_P L xs 2 175 88 [] [.int s0] (wd_k S) (.inl (some (.int x)), wd_k S') := by
  unfold fn_Mo_function_88 at h
  cases h
  exact bk_t tb_c_175_1 rfl rfl
noncomputable def fn_Mo_function_26 (l1 : Int32) (l2 : Int32) (s1 : Int32) (S : wd_S) : Option (Int32 × wd_S) :=
  (wd_b (wd_i S 135 0 s1) fun S5 =>
  (if 0 < (S5.1 135 0) then
    some ((0 : Int32), S5)
  else
    (if l2 = 0 then
      (if (((48 : Int32) * (S5.1 135 42)) + l1) < 0 ∨ 96 ≤ (((48 : Int32) * (S5.1 135 42)) + l1).toNatClampNeg then none else
      fn_Mo_function_88 (S5.1 138 (((48 : Int32) * (S5.1 135 42)) + l1).toNatClampNeg) S5)
    else
      (if l2 = (1 : Int32) then
        (if (((48 : Int32) * (S5.1 135 42)) + l1) < 0 ∨ 96 ≤ (((48 : Int32) * (S5.1 135 42)) + l1).toNatClampNeg then none else
        fn_Mo_function_88 (S5.1 141 (((48 : Int32) * (S5.1 135 42)) + l1).toNatClampNeg) S5)
      else
        (if (((48 : Int32) * (S5.1 135 42)) + l1) < 0 ∨ 96 ≤ (((48 : Int32) * (S5.1 135 42)) + l1).toNatClampNeg then none else
        (if (((48 : Int32) * (S5.1 135 42)) + l1) < 0 ∨ 96 ≤ (((48 : Int32) * (S5.1 135 42)) + l1).toNatClampNeg then none else
        fn_Mo_function_88 ((S5.1 139 (((48 : Int32) * (S5.1 135 42)) + l1).toNatClampNeg) - (S5.1 138 (((48 : Int32) * (S5.1 135 42)) + l1).toNatClampNeg)) S5))))))
set_option maxRecDepth 100000 in
theorem sn_Mo_function_26 {L : Nat} {xs : Nat → Int32} {l1 : Int32} {l2 : Int32} {s1 : Int32} {S : wd_S} {x : Int32} {S' : wd_S} (h : fn_Mo_function_26 l1 l2 s1 S = some (x, S')) : go_r tb_P L xs 2 175 26 [(0, .ref 135), (1, .int l1), (2, .int l2)] [.int s1, .ref 135] (wd_k S) (.inl (some (.int x)), wd_k S') := by
  unfold fn_Mo_function_26 at h
  obtain ⟨S5, eS5, h⟩ := wd_bx h
  refine bk_pi tb_c_175_0 rfl rfl (ci := 11) (k := 0) rfl rfl rfl rfl ?_
  rw [eS5]
  refine bk_b (q := (30, [(0, .ref 135), (1, .int l1), (2, .int l2)], [.ref 135])) tb_c_175_0 mx_175 1 rfl ?_
  refine bk_gi tb_c_175_0 rfl rfl (ci := 11) (k := 0) rfl rfl rfl ?_
  by_cases g6 : 0 < (S5.1 135 0)
  · rw [if_pos g6] at h
    refine bk_zf tb_c_175_0 rfl (pc' := 36) rfl (t := 38) rfl (cm_le_f g6) ?_
    refine bk_b (q := (37, [(0, .ref 135), (1, .int l1), (2, .int l2)], [.int (0 : Int32)])) tb_c_175_0 mx_175 1 rfl ?_
    cases h
    exact bk_t tb_c_175_0 rfl rfl
  · rw [if_neg g6] at h
    refine bk_zt tb_c_175_0 rfl (pc' := 38) rfl (cm_le_t g6) ?_
    refine bk_b (q := (41, [(0, .ref 135), (1, .int l1), (2, .int l2)], [.ref 135, .int (48 : Int32)])) tb_c_175_0 mx_175 2 rfl ?_
    refine bk_gi tb_c_175_0 rfl rfl (ci := 11) (k := 42) rfl rfl rfl ?_
    refine bk_b (q := (49, [(3, .int (((48 : Int32) * (S5.1 135 42)) + l1)), (0, .ref 135), (1, .int l1), (2, .int l2)], [.int l2])) tb_c_175_0 mx_175 5 rfl ?_
    by_cases g7 : l2 = 0
    · rw [if_pos g7] at h
      refine bk_zf tb_c_175_0 rfl (pc' := 52) rfl (t := 61) rfl (cm_ne_f g7) ?_
      refine bk_b (q := (53, [(3, .int (((48 : Int32) * (S5.1 135 42)) + l1)), (0, .ref 135), (1, .int l1), (2, .int l2)], [.ref 135])) tb_c_175_0 mx_175 1 rfl ?_
      refine bk_gc tb_c_175_0 rfl rfl (ci := 11) (k := 12) rfl rfl rfl ?_
      refine bk_b (q := (57, [(3, .int (((48 : Int32) * (S5.1 135 42)) + l1)), (0, .ref 135), (1, .int l1), (2, .int l2)], [.int (((48 : Int32) * (S5.1 135 42)) + l1), .ref 138])) tb_c_175_0 mx_175 1 rfl ?_
      by_cases g12 : (((48 : Int32) * (S5.1 135 42)) + l1) < 0 ∨ 96 ≤ (((48 : Int32) * (S5.1 135 42)) + l1).toNatClampNeg
      · rw [if_pos g12] at h; cases h
      · rw [if_neg g12] at h
        refine bk_a4 tb_c_175_0 rfl rfl rfl g12 ?_
        refine bk_b (q := (88, [(3, .int (((48 : Int32) * (S5.1 135 42)) + l1)), (0, .ref 135), (1, .int l1), (2, .int l2)], [.int (S5.1 138 (((48 : Int32) * (S5.1 135 42)) + l1).toNatClampNeg)])) tb_c_175_0 mx_175 1 rfl ?_
        exact go_lv ls_nil (sn_Mo_function_88 h)
    · rw [if_neg g7] at h
      refine bk_zt tb_c_175_0 rfl (pc' := 61) rfl (cm_ne_t g7) ?_
      refine bk_b (q := (63, [(3, .int (((48 : Int32) * (S5.1 135 42)) + l1)), (0, .ref 135), (1, .int l1), (2, .int l2)], [.int (1 : Int32), .int l2])) tb_c_175_0 mx_175 2 rfl ?_
      by_cases g8 : l2 = (1 : Int32)
      · rw [if_pos g8] at h
        refine bk_jf tb_c_175_0 rfl (pc' := 66) rfl (t := 75) rfl (cm_ne_f g8) ?_
        refine bk_b (q := (67, [(3, .int (((48 : Int32) * (S5.1 135 42)) + l1)), (0, .ref 135), (1, .int l1), (2, .int l2)], [.ref 135])) tb_c_175_0 mx_175 1 rfl ?_
        refine bk_gc tb_c_175_0 rfl rfl (ci := 11) (k := 15) rfl rfl rfl ?_
        refine bk_b (q := (71, [(3, .int (((48 : Int32) * (S5.1 135 42)) + l1)), (0, .ref 135), (1, .int l1), (2, .int l2)], [.int (((48 : Int32) * (S5.1 135 42)) + l1), .ref 141])) tb_c_175_0 mx_175 1 rfl ?_
        by_cases g11 : (((48 : Int32) * (S5.1 135 42)) + l1) < 0 ∨ 96 ≤ (((48 : Int32) * (S5.1 135 42)) + l1).toNatClampNeg
        · rw [if_pos g11] at h; cases h
        · rw [if_neg g11] at h
          refine bk_a4 tb_c_175_1 rfl rfl rfl g11 ?_
          refine bk_b (q := (88, [(3, .int (((48 : Int32) * (S5.1 135 42)) + l1)), (0, .ref 135), (1, .int l1), (2, .int l2)], [.int (S5.1 141 (((48 : Int32) * (S5.1 135 42)) + l1).toNatClampNeg)])) tb_c_175_1 mx_175 1 rfl ?_
          exact go_lv ls_nil (sn_Mo_function_88 h)
      · rw [if_neg g8] at h
        refine bk_jt tb_c_175_0 rfl (pc' := 75) rfl (cm_ne_t g8) ?_
        refine bk_b (q := (76, [(3, .int (((48 : Int32) * (S5.1 135 42)) + l1)), (0, .ref 135), (1, .int l1), (2, .int l2)], [.ref 135])) tb_c_175_1 mx_175 1 rfl ?_
        refine bk_gc tb_c_175_1 rfl rfl (ci := 11) (k := 13) rfl rfl rfl ?_
        refine bk_b (q := (80, [(3, .int (((48 : Int32) * (S5.1 135 42)) + l1)), (0, .ref 135), (1, .int l1), (2, .int l2)], [.int (((48 : Int32) * (S5.1 135 42)) + l1), .ref 139])) tb_c_175_1 mx_175 1 rfl ?_
        by_cases g9 : (((48 : Int32) * (S5.1 135 42)) + l1) < 0 ∨ 96 ≤ (((48 : Int32) * (S5.1 135 42)) + l1).toNatClampNeg
        · rw [if_pos g9] at h; cases h
        · rw [if_neg g9] at h
          refine bk_a4 tb_c_175_1 rfl rfl rfl g9 ?_
          refine bk_b (q := (82, [(3, .int (((48 : Int32) * (S5.1 135 42)) + l1)), (0, .ref 135), (1, .int l1), (2, .int l2)], [.ref 135, .int (S5.1 139 (((48 : Int32) * (S5.1 135 42)) + l1).toNatClampNeg)])) tb_c_175_1 mx_175 1 rfl ?_
          refine bk_gc tb_c_175_1 rfl rfl (ci := 11) (k := 12) rfl rfl rfl ?_
          refine bk_b (q := (86, [(3, .int (((48 : Int32) * (S5.1 135 42)) + l1)), (0, .ref 135), (1, .int l1), (2, .int l2)], [.int (((48 : Int32) * (S5.1 135 42)) + l1), .ref 138, .int (S5.1 139 (((48 : Int32) * (S5.1 135 42)) + l1).toNatClampNeg)])) tb_c_175_1 mx_175 1 rfl ?_
          by_cases g10 : (((48 : Int32) * (S5.1 135 42)) + l1) < 0 ∨ 96 ≤ (((48 : Int32) * (S5.1 135 42)) + l1).toNatClampNeg
          · rw [if_pos g10] at h; cases h
          · rw [if_neg g10] at h
            refine bk_a4 tb_c_175_1 rfl rfl rfl g10 ?_
            refine bk_b (q := (88, [(3, .int (((48 : Int32) * (S5.1 135 42)) + l1)), (0, .ref 135), (1, .int l1), (2, .int l2)], [.int ((S5.1 139 (((48 : Int32) * (S5.1 135 42)) + l1).toNatClampNeg) - (S5.1 138 (((48 : Int32) * (S5.1 135 42)) + l1).toNatClampNeg))])) tb_c_175_1 mx_175 1 rfl ?_
            exact go_lv ls_nil (sn_Mo_function_88 h)
noncomputable def fn_Mo_function_25 (l1 : Int32) (l2 : Int32) (S : wd_S) : Option (Int32 × wd_S) :=
  fn_Mo_function_26 l1 l2 (1 : Int32) S
set_option maxRecDepth 100000 in
theorem sn_Mo_function_25 {L : Nat} {xs : Nat → Int32} {l1 : Int32} {l2 : Int32} {S : wd_S} {x : Int32} {S' : wd_S} (h : fn_Mo_function_25 l1 l2 S = some (x, S')) : go_r tb_P L xs 2 175 25 [(0, .ref 135), (1, .int l1), (2, .int l2)] [.ref 135] (wd_k S) (.inl (some (.int x)), wd_k S') := by
  unfold fn_Mo_function_25 at h
  refine bk_b (q := (26, [(0, .ref 135), (1, .int l1), (2, .int l2)], [.int (1 : Int32), .ref 135])) tb_c_175_0 mx_175 1 rfl ?_
  exact go_lv (ls_sc rfl rfl (ls_sc rfl rfl (ls_sc rfl rfl ls_nil))) (sn_Mo_function_26 h)
/-- SpecialiserModel.function(II)I -/
noncomputable def fn_Mo_function (p1 : Int32) (p2 : Int32) (S : wd_S) : Option (Int32 × wd_S) :=
  (wd_c (fn_Mo_isFn p1 S) fun x2 S1 =>
  (if x2 = 0 then
    fn_Mo_function_25 p1 p2 S1
  else
    (wd_c (fn_Mo_within ((p2).toInt64) (0 : Int64) (2 : Int64) S1) fun x14 S13 =>
    (if x14 = 0 then
      fn_Mo_function_25 p1 p2 S13
    else
      fn_Mo_function_26 p1 p2 (0 : Int32) S13))))
set_option maxRecDepth 100000 in
theorem sn_Mo_function {L : Nat} {xs : Nat → Int32} {p1 : Int32} {p2 : Int32} {S : wd_S} {x : Int32} {S' : wd_S} (h : fn_Mo_function p1 p2 S = some (x, S')) : ev_r tb_P L xs (2 + 1) 175 [.ref 135, .int p1, .int p2] (wd_k S) (.inl (some (.int x)), wd_k S') := by
  unfold fn_Mo_function at h
  refine ev_of (Nat.le_of_ble_eq_true rfl) ?_
  show go_r tb_P L xs 2 175 0 [(0, .ref 135), (1, .int p1), (2, .int p2)] [] (wd_k S) (.inl (some (.int x)), wd_k S')
  refine bk_b (q := (3, [(0, .ref 135), (1, .int p1), (2, .int p2)], [.int p1, .ref 135, .ref 135])) tb_c_175_0 mx_175 3 rfl ?_
  obtain ⟨x2, S1, c3, h⟩ := wd_cx h
  refine bk_kv tb_c_175_0 rfl rfl rfl rfl rfl (ci := 11) rfl rfl (ev_up (Nat.le_of_ble_eq_true rfl) (sn_Mo_isFn c3)) ?_
  by_cases g4 : x2 = 0
  · rw [if_pos g4] at h
    refine bk_zt tb_c_175_0 rfl (pc' := 25) rfl (cm_eq_t g4) ?_
    exact go_lv (ls_sc rfl rfl (ls_sc rfl rfl (ls_sc rfl rfl ls_nil))) (sn_Mo_function_25 h)
  · rw [if_neg g4] at h
    refine bk_zf tb_c_175_0 rfl (pc' := 9) rfl (t := 25) rfl (cm_eq_f g4) ?_
    refine bk_b (q := (12, [(0, .ref 135), (1, .int p1), (2, .int p2)], [.long (0 : Int64), .long ((p2).toInt64), .ref 135])) tb_c_175_0 mx_175 3 rfl ?_
    refine bk_c8 tb_c_175_0 rfl rfl (x := (2 : Int64)) rfl ?_
    obtain ⟨x14, S13, c15, h⟩ := wd_cx h
    refine bk_ks tb_c_175_0 rfl rfl rfl (by decide) rfl rfl (ev_up (Nat.le_of_ble_eq_true rfl) (sn_Mo_within c15)) ?_
    by_cases g16 : x14 = 0
    · rw [if_pos g16] at h
      refine bk_zt tb_c_175_0 rfl (pc' := 25) rfl (cm_eq_t g16) ?_
      exact go_lv (ls_sc rfl rfl (ls_sc rfl rfl (ls_sc rfl rfl ls_nil))) (sn_Mo_function_25 h)
    · rw [if_neg g16] at h
      refine bk_zf tb_c_175_0 rfl (pc' := 21) rfl (t := 25) rfl (cm_eq_f g16) ?_
      refine bk_b (q := (26, [(0, .ref 135), (1, .int p1), (2, .int p2)], [.int (0 : Int32), .ref 135])) tb_c_175_0 mx_175 2 rfl ?_
      exact go_lv (ls_sc rfl rfl (ls_sc rfl rfl (ls_sc rfl rfl ls_nil))) (sn_Mo_function_26 h)
theorem mx_178 : mi_mx tb_P 178 = 3 := rfl
noncomputable def fn_Mo_knownMany_24 (kk4 : Int32 → Int32 → wd_S → Option (Int32 × wd_S)) (l2 : Int32) (s0 : Int32) (s1 : Int32) (S : wd_S) : Option (Int32 × wd_S) :=
  kk4 (s0 + s1) (l2 + (1 : Int32)) S
set_option maxRecDepth 100000 in
theorem sn_Mo_knownMany_24 {L : Nat} {xs : Nat → Int32} {kk4 : Int32 → Int32 → wd_S → Option (Int32 × wd_S)} (hk4 : ∀ {l1 : Int32} {l2 : Int32} {S : wd_S} {x : Int32} {S' : wd_S}, kk4 l1 l2 S = some (x, S') → go_r tb_P L xs 0 178 4 [(0, .ref 135), (1, .int l1), (2, .int l2)] [] (wd_k S) (.inl (some (.int x)), wd_k S')) {l2 : Int32} {s0 : Int32} {s1 : Int32} {S : wd_S} {x : Int32} {S' : wd_S} (h : fn_Mo_knownMany_24 kk4 l2 s0 s1 S = some (x, S')) : go_r tb_P L xs 0 178 24 [(0, .ref 135), (2, .int l2)] [.int s1, .int s0] (wd_k S) (.inl (some (.int x)), wd_k S') := by
  unfold fn_Mo_knownMany_24 at h
  refine bk_b (q := (4, [(2, .int (l2 + (1 : Int32))), (1, .int (s0 + s1)), (0, .ref 135)], [])) tb_c_178_0 mx_178 4 rfl ?_
  exact go_lv (ls_sc rfl rfl (ls_sc rfl rfl (ls_sc rfl rfl ls_nil))) (hk4 h)
noncomputable def fn_Mo_knownMany_4 : Nat → Int32 → Int32 → wd_S → Option (Int32 × wd_S)
  | 0, _, _, _ => none
  | n + 1, l1, l2, S =>
    (if l2 < (4 : Int32) then
      (if l2 < 0 ∨ 4 ≤ l2.toNatClampNeg then none else
      (if (S.1 173 l2.toNatClampNeg) = 0 then
        fn_Mo_knownMany_24 (fn_Mo_knownMany_4 n) l2 l1 (0 : Int32) S
      else
        fn_Mo_knownMany_24 (fn_Mo_knownMany_4 n) l2 l1 (1 : Int32) S))
    else
      some (l1, S))
set_option maxRecDepth 100000 in
theorem sn_Mo_knownMany_4 {L : Nat} {xs : Nat → Int32} : ∀ (n : Nat) {l1 : Int32} {l2 : Int32} {S : wd_S} {x : Int32} {S' : wd_S}, fn_Mo_knownMany_4 n l1 l2 S = some (x, S') → go_r tb_P L xs 0 178 4 [(0, .ref 135), (1, .int l1), (2, .int l2)] [] (wd_k S) (.inl (some (.int x)), wd_k S') := by
  intro n
  induction n with
  | zero => intro l1 l2 S x S'  h; cases h
  | succ n ih =>
    intro l1 l2 S x S'  h
    rw [fn_Mo_knownMany_4] at h
    refine bk_b (q := (6, [(0, .ref 135), (1, .int l1), (2, .int l2)], [.int (4 : Int32), .int l2])) tb_c_178_0 mx_178 2 rfl ?_
    by_cases g1 : l2 < (4 : Int32)
    · rw [if_pos g1] at h
      refine bk_jf tb_c_178_0 rfl (pc' := 9) rfl (t := 32) rfl (cm_ge_f g1) ?_
      refine bk_b (q := (11, [(0, .ref 135), (1, .int l1), (2, .int l2)], [.ref 135, .int l1])) tb_c_178_0 mx_178 2 rfl ?_
      refine bk_gc tb_c_178_0 rfl rfl (ci := 11) (k := 84) rfl rfl rfl ?_
      refine bk_b (q := (15, [(0, .ref 135), (1, .int l1), (2, .int l2)], [.int l2, .ref 173, .int l1])) tb_c_178_0 mx_178 1 rfl ?_
      by_cases g2 : l2 < 0 ∨ 4 ≤ l2.toNatClampNeg
      · rw [if_pos g2] at h; cases h
      · rw [if_neg g2] at h
        refine bk_a1 tb_c_178_0 rfl rfl rfl g2 ?_
        by_cases g3 : (S.1 173 l2.toNatClampNeg) = 0
        · rw [if_pos g3] at h
          refine bk_zt tb_c_178_0 rfl (pc' := 23) rfl (cm_eq_t g3) ?_
          refine bk_b (q := (24, [(0, .ref 135), (1, .int l1), (2, .int l2)], [.int (0 : Int32), .int l1])) tb_c_178_0 mx_178 1 rfl ?_
          exact go_lv (ls_sc rfl rfl (ls_sc rfl rfl ls_nil)) (sn_Mo_knownMany_24 ih h)
        · rw [if_neg g3] at h
          refine bk_zf tb_c_178_0 rfl (pc' := 19) rfl (t := 23) rfl (cm_eq_f g3) ?_
          refine bk_b (q := (24, [(0, .ref 135), (1, .int l1), (2, .int l2)], [.int (1 : Int32), .int l1])) tb_c_178_0 mx_178 2 rfl ?_
          exact go_lv (ls_sc rfl rfl (ls_sc rfl rfl ls_nil)) (sn_Mo_knownMany_24 ih h)
    · rw [if_neg g1] at h
      refine bk_jt tb_c_178_0 rfl (pc' := 32) rfl (cm_ge_t g1) ?_
      refine bk_b (q := (33, [(0, .ref 135), (1, .int l1), (2, .int l2)], [.int l1])) tb_c_178_0 mx_178 1 rfl ?_
      cases h
      exact bk_t tb_c_178_0 rfl rfl
/-- SpecialiserModel.knownMany()I -/
noncomputable def fn_Mo_knownMany (S : wd_S) : Option (Int32 × wd_S) :=
  fn_Mo_knownMany_4 wd_F (0 : Int32) (0 : Int32) S
set_option maxRecDepth 100000 in
theorem sn_Mo_knownMany {L : Nat} {xs : Nat → Int32} {S : wd_S} {x : Int32} {S' : wd_S} (h : fn_Mo_knownMany  S = some (x, S')) : ev_r tb_P L xs (0 + 1) 178 [.ref 135] (wd_k S) (.inl (some (.int x)), wd_k S') := by
  unfold fn_Mo_knownMany at h
  refine ev_of (Nat.le_of_ble_eq_true rfl) ?_
  show go_r tb_P L xs 0 178 0 [(0, .ref 135)] [] (wd_k S) (.inl (some (.int x)), wd_k S')
  refine bk_b (q := (4, [(2, .int (0 : Int32)), (1, .int (0 : Int32)), (0, .ref 135)], [])) tb_c_178_0 mx_178 4 rfl ?_
  exact go_lv (ls_sc rfl rfl (ls_sc rfl rfl (ls_sc rfl rfl ls_nil))) (sn_Mo_knownMany_4 wd_F h)
theorem mx_177 : mi_mx tb_P 177 = 3 := rfl
noncomputable def fn_Mo_know_18 (l1 : Int32) (l2 : Int32) (s1 : Int32) (S : wd_S) : Option (Int32 × wd_S) :=
  (wd_b (wd_i S 135 0 s1) fun S5 =>
  (if 0 < (S5.1 135 0) then
    some ((0 : Int32), S5)
  else
    (if (l1 < 0 ∨ 4 ≤ l1.toNatClampNeg) ∨ ¬mi_fit .boolean (.int (1 : Int32)) = true then none else
    (wd_b (wd_i S5 173 l1.toNatClampNeg (1 : Int32)) fun S8 =>
    (if l1 < 0 ∨ 4 ≤ l1.toNatClampNeg then none else
    (wd_b (wd_i S8 174 l1.toNatClampNeg l2) fun S10 =>
    (wd_c (fn_Mo_knownMany  S10) fun x12 S11 =>
    some (x12, S11))))))))
set_option maxRecDepth 100000 in
theorem sn_Mo_know_18 {L : Nat} {xs : Nat → Int32} {l1 : Int32} {l2 : Int32} {s1 : Int32} {S : wd_S} {x : Int32} {S' : wd_S} (h : fn_Mo_know_18 l1 l2 s1 S = some (x, S')) : go_r tb_P L xs 1 177 18 [(0, .ref 135), (1, .int l1), (2, .int l2)] [.int s1, .ref 135] (wd_k S) (.inl (some (.int x)), wd_k S') := by
  unfold fn_Mo_know_18 at h
  obtain ⟨S5, eS5, h⟩ := wd_bx h
  refine bk_pi tb_c_177_0 rfl rfl (ci := 11) (k := 0) rfl rfl rfl rfl ?_
  rw [eS5]
  refine bk_b (q := (22, [(0, .ref 135), (1, .int l1), (2, .int l2)], [.ref 135])) tb_c_177_0 mx_177 1 rfl ?_
  refine bk_gi tb_c_177_0 rfl rfl (ci := 11) (k := 0) rfl rfl rfl ?_
  by_cases g6 : 0 < (S5.1 135 0)
  · rw [if_pos g6] at h
    refine bk_zf tb_c_177_0 rfl (pc' := 28) rfl (t := 30) rfl (cm_le_f g6) ?_
    refine bk_b (q := (29, [(0, .ref 135), (1, .int l1), (2, .int l2)], [.int (0 : Int32)])) tb_c_177_0 mx_177 1 rfl ?_
    cases h
    exact bk_t tb_c_177_0 rfl rfl
  · rw [if_neg g6] at h
    refine bk_zt tb_c_177_0 rfl (pc' := 30) rfl (cm_le_t g6) ?_
    refine bk_b (q := (31, [(0, .ref 135), (1, .int l1), (2, .int l2)], [.ref 135])) tb_c_177_0 mx_177 1 rfl ?_
    refine bk_gc tb_c_177_0 rfl rfl (ci := 11) (k := 84) rfl rfl rfl ?_
    refine bk_b (q := (36, [(0, .ref 135), (1, .int l1), (2, .int l2)], [.int (1 : Int32), .int l1, .ref 173])) tb_c_177_0 mx_177 2 rfl ?_
    by_cases g7 : (l1 < 0 ∨ 4 ≤ l1.toNatClampNeg) ∨ ¬mi_fit .boolean (.int (1 : Int32)) = true
    · rw [if_pos g7] at h; cases h
    · rw [if_neg g7] at h
      obtain ⟨S8, eS8, h⟩ := wd_bx h
      refine bk_s1 tb_c_177_0 rfl rfl rfl (fun q => g7 (Or.inl q)) (Decidable.not_not.mp (fun q => g7 (Or.inr q))) ?_
      rw [eS8]
      refine bk_b (q := (38, [(0, .ref 135), (1, .int l1), (2, .int l2)], [.ref 135])) tb_c_177_0 mx_177 1 rfl ?_
      refine bk_gc tb_c_177_0 rfl rfl (ci := 11) (k := 85) rfl rfl rfl ?_
      refine bk_b (q := (43, [(0, .ref 135), (1, .int l1), (2, .int l2)], [.int l2, .int l1, .ref 174])) tb_c_177_0 mx_177 2 rfl ?_
      by_cases g9 : l1 < 0 ∨ 4 ≤ l1.toNatClampNeg
      · rw [if_pos g9] at h; cases h
      · rw [if_neg g9] at h
        obtain ⟨S10, eS10, h⟩ := wd_bx h
        refine bk_s4 tb_c_177_0 rfl rfl rfl g9 ?_
        rw [eS10]
        refine bk_b (q := (45, [(0, .ref 135), (1, .int l1), (2, .int l2)], [.ref 135])) tb_c_177_0 mx_177 1 rfl ?_
        obtain ⟨x12, S11, c13, h⟩ := wd_cx h
        refine bk_kv tb_c_177_0 rfl rfl rfl rfl rfl (ci := 11) rfl rfl (ev_up (Nat.le_of_ble_eq_true rfl) (sn_Mo_knownMany c13)) ?_
        cases h
        exact bk_t tb_c_177_0 rfl rfl
/-- SpecialiserModel.know(II)I -/
noncomputable def fn_Mo_know (p1 : Int32) (p2 : Int32) (S : wd_S) : Option (Int32 × wd_S) :=
  (wd_c (fn_Mo_within ((p1).toInt64) (0 : Int64) (3 : Int64) S) fun x2 S1 =>
  (if x2 = 0 then
    fn_Mo_know_18 p1 p2 (1 : Int32) S1
  else
    fn_Mo_know_18 p1 p2 (0 : Int32) S1))
set_option maxRecDepth 100000 in
theorem sn_Mo_know {L : Nat} {xs : Nat → Int32} {p1 : Int32} {p2 : Int32} {S : wd_S} {x : Int32} {S' : wd_S} (h : fn_Mo_know p1 p2 S = some (x, S')) : ev_r tb_P L xs (1 + 1) 177 [.ref 135, .int p1, .int p2] (wd_k S) (.inl (some (.int x)), wd_k S') := by
  unfold fn_Mo_know at h
  refine ev_of (Nat.le_of_ble_eq_true rfl) ?_
  show go_r tb_P L xs 1 177 0 [(0, .ref 135), (1, .int p1), (2, .int p2)] [] (wd_k S) (.inl (some (.int x)), wd_k S')
  refine bk_b (q := (4, [(0, .ref 135), (1, .int p1), (2, .int p2)], [.long (0 : Int64), .long ((p1).toInt64), .ref 135])) tb_c_177_0 mx_177 4 rfl ?_
  refine bk_c8 tb_c_177_0 rfl rfl (x := (3 : Int64)) rfl ?_
  obtain ⟨x2, S1, c3, h⟩ := wd_cx h
  refine bk_ks tb_c_177_0 rfl rfl rfl (by decide) rfl rfl (ev_up (Nat.le_of_ble_eq_true rfl) (sn_Mo_within c3)) ?_
  by_cases g4 : x2 = 0
  · rw [if_pos g4] at h
    refine bk_zt tb_c_177_0 rfl (pc' := 17) rfl (cm_eq_t g4) ?_
    refine bk_b (q := (18, [(0, .ref 135), (1, .int p1), (2, .int p2)], [.int (1 : Int32), .ref 135])) tb_c_177_0 mx_177 1 rfl ?_
    exact go_lv (ls_sc rfl rfl (ls_sc rfl rfl (ls_sc rfl rfl ls_nil))) (sn_Mo_know_18 h)
  · rw [if_neg g4] at h
    refine bk_zf tb_c_177_0 rfl (pc' := 13) rfl (t := 17) rfl (cm_eq_f g4) ?_
    refine bk_b (q := (18, [(0, .ref 135), (1, .int p1), (2, .int p2)], [.int (0 : Int32), .ref 135])) tb_c_177_0 mx_177 2 rfl ?_
    exact go_lv (ls_sc rfl rfl (ls_sc rfl rfl (ls_sc rfl rfl ls_nil))) (sn_Mo_know_18 h)
theorem mx_180 : mi_mx tb_P 180 = 8 := rfl
noncomputable def fn_Mo_versionOf_217 (kk179 : Int32 → Int32 → Int32 → wd_S → Option (Int32 × wd_S)) (l2 : Int32) (l5 : Int32) (l6 : Int32) (s1 : Int32) (s2 : Int32) (S : wd_S) : Option (Int32 × wd_S) :=
  (if s1 < 0 ∨ 640 ≤ s1.toNatClampNeg then none else
  (wd_b (wd_i S 161 s1.toNatClampNeg s2) fun S11 =>
  kk179 l2 l5 (l6 + (1 : Int32)) S11))
set_option maxRecDepth 100000 in
theorem sn_Mo_versionOf_217 {L : Nat} {xs : Nat → Int32} {kk179 : Int32 → Int32 → Int32 → wd_S → Option (Int32 × wd_S)} (hk179 : ∀ {l2 : Int32} {l5 : Int32} {l6 : Int32} {S : wd_S} {x : Int32} {S' : wd_S}, kk179 l2 l5 l6 S = some (x, S') → go_r tb_P L xs 0 180 179 [(0, .ref 135), (2, .int l2), (5, .int l5), (6, .int l6)] [] (wd_k S) (.inl (some (.int x)), wd_k S')) {l2 : Int32} {l5 : Int32} {l6 : Int32} {s1 : Int32} {s2 : Int32} {S : wd_S} {x : Int32} {S' : wd_S} (h : fn_Mo_versionOf_217 kk179 l2 l5 l6 s1 s2 S = some (x, S')) : go_r tb_P L xs 0 180 217 [(0, .ref 135), (2, .int l2), (5, .int l5), (6, .int l6)] [.int s2, .int s1, .ref 161] (wd_k S) (.inl (some (.int x)), wd_k S') := by
  unfold fn_Mo_versionOf_217 at h
  by_cases g10 : s1 < 0 ∨ 640 ≤ s1.toNatClampNeg
  · rw [if_pos g10] at h; cases h
  · rw [if_neg g10] at h
    obtain ⟨S11, eS11, h⟩ := wd_bx h
    refine bk_s4 tb_c_180_3 rfl rfl rfl g10 ?_
    rw [eS11]
    refine bk_b (q := (179, [(6, .int (l6 + (1 : Int32))), (0, .ref 135), (2, .int l2), (5, .int l5)], [])) tb_c_180_3 mx_180 2 rfl ?_
    exact go_lv (ls_sc rfl rfl (ls_sc rfl rfl (ls_sc rfl rfl (ls_sc rfl rfl ls_nil)))) (hk179 h)
noncomputable def fn_Mo_versionOf_179 : Nat → Int32 → Int32 → Int32 → wd_S → Option (Int32 × wd_S)
  | 0, _, _, _, _ => none
  | n + 1, l2, l5, l6, S =>
    (if l6 < (4 : Int32) then
      (if ((l2 >>> (l6 &&& 31)) &&& (1 : Int32)) = (1 : Int32) then
        (if l6 < 0 ∨ 4 ≤ l6.toNatClampNeg then none else
        fn_Mo_versionOf_217 (fn_Mo_versionOf_179 n) l2 l5 l6 (((4 : Int32) * l5) + l6) (S.1 171 l6.toNatClampNeg) S)
      else
        fn_Mo_versionOf_217 (fn_Mo_versionOf_179 n) l2 l5 l6 (((4 : Int32) * l5) + l6) (0 : Int32) S)
    else
      some (l5, S))
set_option maxRecDepth 100000 in
theorem sn_Mo_versionOf_179 {L : Nat} {xs : Nat → Int32} : ∀ (n : Nat) {l2 : Int32} {l5 : Int32} {l6 : Int32} {S : wd_S} {x : Int32} {S' : wd_S}, fn_Mo_versionOf_179 n l2 l5 l6 S = some (x, S') → go_r tb_P L xs 0 180 179 [(0, .ref 135), (2, .int l2), (5, .int l5), (6, .int l6)] [] (wd_k S) (.inl (some (.int x)), wd_k S') := by
  intro n
  induction n with
  | zero => intro l2 l5 l6 S x S'  h; cases h
  | succ n ih =>
    intro l2 l5 l6 S x S'  h
    rw [fn_Mo_versionOf_179] at h
    refine bk_b (q := (182, [(0, .ref 135), (2, .int l2), (5, .int l5), (6, .int l6)], [.int (4 : Int32), .int l6])) tb_c_180_2 mx_180 2 rfl ?_
    by_cases g8 : l6 < (4 : Int32)
    · rw [if_pos g8] at h
      refine bk_jf tb_c_180_2 rfl (pc' := 185) rfl (t := 224) rfl (cm_ge_f g8) ?_
      refine bk_b (q := (186, [(0, .ref 135), (2, .int l2), (5, .int l5), (6, .int l6)], [.ref 135])) tb_c_180_2 mx_180 1 rfl ?_
      refine bk_gc tb_c_180_2 rfl rfl (ci := 11) (k := 55) rfl rfl rfl ?_
      refine bk_b (q := (203, [(0, .ref 135), (2, .int l2), (5, .int l5), (6, .int l6)], [.int (1 : Int32), .int ((l2 >>> (l6 &&& 31)) &&& (1 : Int32)), .int (((4 : Int32) * l5) + l6), .ref 161])) tb_c_180_2 mx_180 11 rfl ?_
      by_cases g9 : ((l2 >>> (l6 &&& 31)) &&& (1 : Int32)) = (1 : Int32)
      · rw [if_pos g9] at h
        refine bk_jf tb_c_180_2 rfl (pc' := 206) rfl (t := 216) rfl (cm_ne_f g9) ?_
        refine bk_b (q := (207, [(0, .ref 135), (2, .int l2), (5, .int l5), (6, .int l6)], [.ref 135, .int (((4 : Int32) * l5) + l6), .ref 161])) tb_c_180_2 mx_180 1 rfl ?_
        refine bk_gc tb_c_180_2 rfl rfl (ci := 11) (k := 82) rfl rfl rfl ?_
        refine bk_b (q := (212, [(0, .ref 135), (2, .int l2), (5, .int l5), (6, .int l6)], [.int l6, .ref 171, .int (((4 : Int32) * l5) + l6), .ref 161])) tb_c_180_2 mx_180 1 rfl ?_
        by_cases g12 : l6 < 0 ∨ 4 ≤ l6.toNatClampNeg
        · rw [if_pos g12] at h; cases h
        · rw [if_neg g12] at h
          refine bk_a4 tb_c_180_2 rfl rfl rfl g12 ?_
          refine bk_b (q := (217, [(0, .ref 135), (2, .int l2), (5, .int l5), (6, .int l6)], [.int (S.1 171 l6.toNatClampNeg), .int (((4 : Int32) * l5) + l6), .ref 161])) tb_c_180_2 mx_180 1 rfl ?_
          exact go_lv (ls_sc rfl rfl (ls_sc rfl rfl (ls_sc rfl rfl (ls_sc rfl rfl ls_nil)))) (sn_Mo_versionOf_217 ih h)
      · rw [if_neg g9] at h
        refine bk_jt tb_c_180_2 rfl (pc' := 216) rfl (cm_ne_t g9) ?_
        refine bk_b (q := (217, [(0, .ref 135), (2, .int l2), (5, .int l5), (6, .int l6)], [.int (0 : Int32), .int (((4 : Int32) * l5) + l6), .ref 161])) tb_c_180_3 mx_180 1 rfl ?_
        exact go_lv (ls_sc rfl rfl (ls_sc rfl rfl (ls_sc rfl rfl (ls_sc rfl rfl ls_nil)))) (sn_Mo_versionOf_217 ih h)
    · rw [if_neg g8] at h
      refine bk_jt tb_c_180_2 rfl (pc' := 224) rfl (cm_ge_t g8) ?_
      refine bk_b (q := (226, [(0, .ref 135), (2, .int l2), (5, .int l5), (6, .int l6)], [.int l5])) tb_c_180_3 mx_180 1 rfl ?_
      cases h
      exact bk_t tb_c_180_3 rfl rfl
noncomputable def fn_Mo_versionOf_141 (l1 : Int32) (l2 : Int32) (l4 : Int32) (S : wd_S) : Option (Int32 × wd_S) :=
  (wd_b (wd_i S 135 65 ((S.1 135 65) + (1 : Int32))) fun S3 =>
  (if (l4 + (S.1 135 65)) < 0 ∨ 160 ≤ (l4 + (S.1 135 65)).toNatClampNeg then none else
  (wd_b (wd_i S3 159 (l4 + (S.1 135 65)).toNatClampNeg l1) fun S5 =>
  (if (l4 + (S.1 135 65)) < 0 ∨ 160 ≤ (l4 + (S.1 135 65)).toNatClampNeg then none else
  (wd_b (wd_i S5 160 (l4 + (S.1 135 65)).toNatClampNeg l2) fun S7 =>
  fn_Mo_versionOf_179 wd_F l2 (l4 + (S.1 135 65)) (0 : Int32) S7)))))
set_option maxRecDepth 100000 in
theorem sn_Mo_versionOf_141 {L : Nat} {xs : Nat → Int32} {l1 : Int32} {l2 : Int32} {l4 : Int32} {S : wd_S} {x : Int32} {S' : wd_S} (h : fn_Mo_versionOf_141 l1 l2 l4 S = some (x, S')) : go_r tb_P L xs 0 180 141 [(0, .ref 135), (1, .int l1), (2, .int l2), (4, .int l4)] [] (wd_k S) (.inl (some (.int x)), wd_k S') := by
  unfold fn_Mo_versionOf_141 at h
  refine bk_b (q := (144, [(0, .ref 135), (1, .int l1), (2, .int l2), (4, .int l4)], [.ref 135, .int l4])) tb_c_180_1 mx_180 2 rfl ?_
  refine bk_gi tb_c_180_1 rfl rfl (ci := 11) (k := 65) rfl rfl rfl ?_
  refine bk_b (q := (150, [(5, .int (l4 + (S.1 135 65))), (0, .ref 135), (1, .int l1), (2, .int l2), (4, .int l4)], [])) tb_c_180_1 mx_180 2 rfl ?_
  refine bk_b (q := (152, [(5, .int (l4 + (S.1 135 65))), (0, .ref 135), (1, .int l1), (2, .int l2), (4, .int l4)], [.ref 135, .ref 135])) tb_c_180_2 mx_180 2 rfl ?_
  refine bk_gi tb_c_180_2 rfl rfl (ci := 11) (k := 65) rfl rfl rfl ?_
  refine bk_b (q := (157, [(5, .int (l4 + (S.1 135 65))), (0, .ref 135), (1, .int l1), (2, .int l2), (4, .int l4)], [.int ((S.1 135 65) + (1 : Int32)), .ref 135])) tb_c_180_2 mx_180 2 rfl ?_
  obtain ⟨S3, eS3, h⟩ := wd_bx h
  refine bk_pi tb_c_180_2 rfl rfl (ci := 11) (k := 65) rfl rfl rfl rfl ?_
  rw [eS3]
  refine bk_b (q := (161, [(5, .int (l4 + (S.1 135 65))), (0, .ref 135), (1, .int l1), (2, .int l2), (4, .int l4)], [.ref 135])) tb_c_180_2 mx_180 1 rfl ?_
  refine bk_gc tb_c_180_2 rfl rfl (ci := 11) (k := 53) rfl rfl rfl ?_
  refine bk_b (q := (167, [(5, .int (l4 + (S.1 135 65))), (0, .ref 135), (1, .int l1), (2, .int l2), (4, .int l4)], [.int l1, .int (l4 + (S.1 135 65)), .ref 159])) tb_c_180_2 mx_180 2 rfl ?_
  by_cases g4 : (l4 + (S.1 135 65)) < 0 ∨ 160 ≤ (l4 + (S.1 135 65)).toNatClampNeg
  · rw [if_pos g4] at h; cases h
  · rw [if_neg g4] at h
    obtain ⟨S5, eS5, h⟩ := wd_bx h
    refine bk_s4 tb_c_180_2 rfl rfl rfl g4 ?_
    rw [eS5]
    refine bk_b (q := (169, [(5, .int (l4 + (S.1 135 65))), (0, .ref 135), (1, .int l1), (2, .int l2), (4, .int l4)], [.ref 135])) tb_c_180_2 mx_180 1 rfl ?_
    refine bk_gc tb_c_180_2 rfl rfl (ci := 11) (k := 54) rfl rfl rfl ?_
    refine bk_b (q := (175, [(5, .int (l4 + (S.1 135 65))), (0, .ref 135), (1, .int l1), (2, .int l2), (4, .int l4)], [.int l2, .int (l4 + (S.1 135 65)), .ref 160])) tb_c_180_2 mx_180 2 rfl ?_
    by_cases g6 : (l4 + (S.1 135 65)) < 0 ∨ 160 ≤ (l4 + (S.1 135 65)).toNatClampNeg
    · rw [if_pos g6] at h; cases h
    · rw [if_neg g6] at h
      obtain ⟨S7, eS7, h⟩ := wd_bx h
      refine bk_s4 tb_c_180_2 rfl rfl rfl g6 ?_
      rw [eS7]
      refine bk_b (q := (179, [(6, .int (0 : Int32)), (5, .int (l4 + (S.1 135 65))), (0, .ref 135), (1, .int l1), (2, .int l2), (4, .int l4)], [])) tb_c_180_2 mx_180 2 rfl ?_
      exact go_lv (ls_sc rfl rfl (ls_sc rfl rfl (ls_sc rfl rfl (ls_sc rfl rfl ls_nil)))) (sn_Mo_versionOf_179 wd_F h)
noncomputable def fn_Mo_versionOf_104 (kk13 : Int32 → Int32 → Int32 → Int32 → Int32 → wd_S → Option (Int32 × wd_S)) (kk57 : Int32 → Int32 → Int32 → Int32 → Int32 → Int32 → Int32 → wd_S → Option (Int32 × wd_S)) (l1 : Int32) (l2 : Int32) (l3 : Int32) (l4 : Int32) (l5 : Int32) (l7 : Int32) (s0 : Int32) (S : wd_S) : Option (Int32 × wd_S) :=
  kk57 l1 l2 l3 l4 l5 s0 (l7 + (1 : Int32)) S
set_option maxRecDepth 100000 in
theorem sn_Mo_versionOf_104 {L : Nat} {xs : Nat → Int32} {kk13 : Int32 → Int32 → Int32 → Int32 → Int32 → wd_S → Option (Int32 × wd_S)} {kk57 : Int32 → Int32 → Int32 → Int32 → Int32 → Int32 → Int32 → wd_S → Option (Int32 × wd_S)} (hk13 : ∀ {l1 : Int32} {l2 : Int32} {l3 : Int32} {l4 : Int32} {l5 : Int32} {S : wd_S} {x : Int32} {S' : wd_S}, kk13 l1 l2 l3 l4 l5 S = some (x, S') → go_r tb_P L xs 0 180 13 [(0, .ref 135), (1, .int l1), (2, .int l2), (3, .int l3), (4, .int l4), (5, .int l5)] [] (wd_k S) (.inl (some (.int x)), wd_k S')) (hk57 : ∀ {l1 : Int32} {l2 : Int32} {l3 : Int32} {l4 : Int32} {l5 : Int32} {l6 : Int32} {l7 : Int32} {S : wd_S} {x : Int32} {S' : wd_S}, kk57 l1 l2 l3 l4 l5 l6 l7 S = some (x, S') → go_r tb_P L xs 0 180 57 [(0, .ref 135), (1, .int l1), (2, .int l2), (3, .int l3), (4, .int l4), (5, .int l5), (6, .int l6), (7, .int l7)] [] (wd_k S) (.inl (some (.int x)), wd_k S')) {l1 : Int32} {l2 : Int32} {l3 : Int32} {l4 : Int32} {l5 : Int32} {l7 : Int32} {s0 : Int32} {S : wd_S} {x : Int32} {S' : wd_S} (h : fn_Mo_versionOf_104 kk13 kk57 l1 l2 l3 l4 l5 l7 s0 S = some (x, S')) : go_r tb_P L xs 0 180 104 [(0, .ref 135), (1, .int l1), (2, .int l2), (3, .int l3), (4, .int l4), (5, .int l5), (7, .int l7)] [.int s0] (wd_k S) (.inl (some (.int x)), wd_k S') := by
  unfold fn_Mo_versionOf_104 at h
  refine bk_b (q := (57, [(7, .int (l7 + (1 : Int32))), (6, .int s0), (0, .ref 135), (1, .int l1), (2, .int l2), (3, .int l3), (4, .int l4), (5, .int l5)], [])) tb_c_180_1 mx_180 3 rfl ?_
  exact go_lv (ls_sc rfl rfl (ls_sc rfl rfl (ls_sc rfl rfl (ls_sc rfl rfl (ls_sc rfl rfl (ls_sc rfl rfl (ls_sc rfl rfl (ls_sc rfl rfl ls_nil)))))))) (hk57 h)
noncomputable def fn_Mo_versionOf_103 (kk13 : Int32 → Int32 → Int32 → Int32 → Int32 → wd_S → Option (Int32 × wd_S)) (kk57 : Int32 → Int32 → Int32 → Int32 → Int32 → Int32 → Int32 → wd_S → Option (Int32 × wd_S)) (l1 : Int32) (l2 : Int32) (l3 : Int32) (l4 : Int32) (l5 : Int32) (l7 : Int32) (S : wd_S) : Option (Int32 × wd_S) :=
  fn_Mo_versionOf_104 kk13 kk57 l1 l2 l3 l4 l5 l7 (0 : Int32) S
set_option maxRecDepth 100000 in
theorem sn_Mo_versionOf_103 {L : Nat} {xs : Nat → Int32} {kk13 : Int32 → Int32 → Int32 → Int32 → Int32 → wd_S → Option (Int32 × wd_S)} {kk57 : Int32 → Int32 → Int32 → Int32 → Int32 → Int32 → Int32 → wd_S → Option (Int32 × wd_S)} (hk13 : ∀ {l1 : Int32} {l2 : Int32} {l3 : Int32} {l4 : Int32} {l5 : Int32} {S : wd_S} {x : Int32} {S' : wd_S}, kk13 l1 l2 l3 l4 l5 S = some (x, S') → go_r tb_P L xs 0 180 13 [(0, .ref 135), (1, .int l1), (2, .int l2), (3, .int l3), (4, .int l4), (5, .int l5)] [] (wd_k S) (.inl (some (.int x)), wd_k S')) (hk57 : ∀ {l1 : Int32} {l2 : Int32} {l3 : Int32} {l4 : Int32} {l5 : Int32} {l6 : Int32} {l7 : Int32} {S : wd_S} {x : Int32} {S' : wd_S}, kk57 l1 l2 l3 l4 l5 l6 l7 S = some (x, S') → go_r tb_P L xs 0 180 57 [(0, .ref 135), (1, .int l1), (2, .int l2), (3, .int l3), (4, .int l4), (5, .int l5), (6, .int l6), (7, .int l7)] [] (wd_k S) (.inl (some (.int x)), wd_k S')) {l1 : Int32} {l2 : Int32} {l3 : Int32} {l4 : Int32} {l5 : Int32} {l7 : Int32} {S : wd_S} {x : Int32} {S' : wd_S} (h : fn_Mo_versionOf_103 kk13 kk57 l1 l2 l3 l4 l5 l7 S = some (x, S')) : go_r tb_P L xs 0 180 103 [(0, .ref 135), (1, .int l1), (2, .int l2), (3, .int l3), (4, .int l4), (5, .int l5), (7, .int l7)] [] (wd_k S) (.inl (some (.int x)), wd_k S') := by
  unfold fn_Mo_versionOf_103 at h
  refine bk_b (q := (104, [(0, .ref 135), (1, .int l1), (2, .int l2), (3, .int l3), (4, .int l4), (5, .int l5), (7, .int l7)], [.int (0 : Int32)])) tb_c_180_1 mx_180 1 rfl ?_
  exact go_lv (ls_sc rfl rfl (ls_sc rfl rfl (ls_sc rfl rfl (ls_sc rfl rfl (ls_sc rfl rfl (ls_sc rfl rfl (ls_sc rfl rfl ls_nil))))))) (sn_Mo_versionOf_104 hk13 hk57 h)
noncomputable def fn_Mo_versionOf_99 (kk13 : Int32 → Int32 → Int32 → Int32 → Int32 → wd_S → Option (Int32 × wd_S)) (kk57 : Int32 → Int32 → Int32 → Int32 → Int32 → Int32 → Int32 → wd_S → Option (Int32 × wd_S)) (l1 : Int32) (l2 : Int32) (l3 : Int32) (l4 : Int32) (l5 : Int32) (l7 : Int32) (S : wd_S) : Option (Int32 × wd_S) :=
  fn_Mo_versionOf_104 kk13 kk57 l1 l2 l3 l4 l5 l7 (1 : Int32) S
set_option maxRecDepth 100000 in
theorem sn_Mo_versionOf_99 {L : Nat} {xs : Nat → Int32} {kk13 : Int32 → Int32 → Int32 → Int32 → Int32 → wd_S → Option (Int32 × wd_S)} {kk57 : Int32 → Int32 → Int32 → Int32 → Int32 → Int32 → Int32 → wd_S → Option (Int32 × wd_S)} (hk13 : ∀ {l1 : Int32} {l2 : Int32} {l3 : Int32} {l4 : Int32} {l5 : Int32} {S : wd_S} {x : Int32} {S' : wd_S}, kk13 l1 l2 l3 l4 l5 S = some (x, S') → go_r tb_P L xs 0 180 13 [(0, .ref 135), (1, .int l1), (2, .int l2), (3, .int l3), (4, .int l4), (5, .int l5)] [] (wd_k S) (.inl (some (.int x)), wd_k S')) (hk57 : ∀ {l1 : Int32} {l2 : Int32} {l3 : Int32} {l4 : Int32} {l5 : Int32} {l6 : Int32} {l7 : Int32} {S : wd_S} {x : Int32} {S' : wd_S}, kk57 l1 l2 l3 l4 l5 l6 l7 S = some (x, S') → go_r tb_P L xs 0 180 57 [(0, .ref 135), (1, .int l1), (2, .int l2), (3, .int l3), (4, .int l4), (5, .int l5), (6, .int l6), (7, .int l7)] [] (wd_k S) (.inl (some (.int x)), wd_k S')) {l1 : Int32} {l2 : Int32} {l3 : Int32} {l4 : Int32} {l5 : Int32} {l7 : Int32} {S : wd_S} {x : Int32} {S' : wd_S} (h : fn_Mo_versionOf_99 kk13 kk57 l1 l2 l3 l4 l5 l7 S = some (x, S')) : go_r tb_P L xs 0 180 99 [(0, .ref 135), (1, .int l1), (2, .int l2), (3, .int l3), (4, .int l4), (5, .int l5), (7, .int l7)] [] (wd_k S) (.inl (some (.int x)), wd_k S') := by
  unfold fn_Mo_versionOf_99 at h
  refine bk_b (q := (104, [(0, .ref 135), (1, .int l1), (2, .int l2), (3, .int l3), (4, .int l4), (5, .int l5), (7, .int l7)], [.int (1 : Int32)])) tb_c_180_1 mx_180 2 rfl ?_
  exact go_lv (ls_sc rfl rfl (ls_sc rfl rfl (ls_sc rfl rfl (ls_sc rfl rfl (ls_sc rfl rfl (ls_sc rfl rfl (ls_sc rfl rfl ls_nil))))))) (sn_Mo_versionOf_104 hk13 hk57 h)
noncomputable def fn_Mo_versionOf_57 (kk13 : Int32 → Int32 → Int32 → Int32 → Int32 → wd_S → Option (Int32 × wd_S)) : Nat → Int32 → Int32 → Int32 → Int32 → Int32 → Int32 → Int32 → wd_S → Option (Int32 × wd_S)
  | 0, _, _, _, _, _, _, _, _ => none
  | n + 1, l1, l2, l3, l4, l5, l6, l7, S =>
    (if l7 < (4 : Int32) then
      (if l6 = 0 then
        fn_Mo_versionOf_103 kk13 (fn_Mo_versionOf_57 kk13 n) l1 l2 l3 l4 l5 l7 S
      else
        (if ((l2 >>> (l7 &&& 31)) &&& (1 : Int32)) = 0 then
          fn_Mo_versionOf_99 kk13 (fn_Mo_versionOf_57 kk13 n) l1 l2 l3 l4 l5 l7 S
        else
          (if (((4 : Int32) * l5) + l7) < 0 ∨ 640 ≤ (((4 : Int32) * l5) + l7).toNatClampNeg then none else
          (if l7 < 0 ∨ 4 ≤ l7.toNatClampNeg then none else
          (if (S.1 161 (((4 : Int32) * l5) + l7).toNatClampNeg) = (S.1 171 l7.toNatClampNeg) then
            fn_Mo_versionOf_99 kk13 (fn_Mo_versionOf_57 kk13 n) l1 l2 l3 l4 l5 l7 S
          else
            fn_Mo_versionOf_103 kk13 (fn_Mo_versionOf_57 kk13 n) l1 l2 l3 l4 l5 l7 S)))))
    else
      (if l6 = 0 then
        kk13 l1 l2 l3 l4 (l5 + (1 : Int32)) S
      else
        some (l5, S)))
set_option maxRecDepth 100000 in
theorem sn_Mo_versionOf_57 {L : Nat} {xs : Nat → Int32} {kk13 : Int32 → Int32 → Int32 → Int32 → Int32 → wd_S → Option (Int32 × wd_S)} (hk13 : ∀ {l1 : Int32} {l2 : Int32} {l3 : Int32} {l4 : Int32} {l5 : Int32} {S : wd_S} {x : Int32} {S' : wd_S}, kk13 l1 l2 l3 l4 l5 S = some (x, S') → go_r tb_P L xs 0 180 13 [(0, .ref 135), (1, .int l1), (2, .int l2), (3, .int l3), (4, .int l4), (5, .int l5)] [] (wd_k S) (.inl (some (.int x)), wd_k S')) : ∀ (n : Nat) {l1 : Int32} {l2 : Int32} {l3 : Int32} {l4 : Int32} {l5 : Int32} {l6 : Int32} {l7 : Int32} {S : wd_S} {x : Int32} {S' : wd_S}, fn_Mo_versionOf_57 kk13 n l1 l2 l3 l4 l5 l6 l7 S = some (x, S') → go_r tb_P L xs 0 180 57 [(0, .ref 135), (1, .int l1), (2, .int l2), (3, .int l3), (4, .int l4), (5, .int l5), (6, .int l6), (7, .int l7)] [] (wd_k S) (.inl (some (.int x)), wd_k S') := by
  intro n
  induction n with
  | zero => intro l1 l2 l3 l4 l5 l6 l7 S x S'  h; cases h
  | succ n ih =>
    intro l1 l2 l3 l4 l5 l6 l7 S x S'  h
    rw [fn_Mo_versionOf_57] at h
    refine bk_b (q := (60, [(0, .ref 135), (1, .int l1), (2, .int l2), (3, .int l3), (4, .int l4), (5, .int l5), (6, .int l6), (7, .int l7)], [.int (4 : Int32), .int l7])) tb_c_180_0 mx_180 2 rfl ?_
    by_cases g16 : l7 < (4 : Int32)
    · rw [if_pos g16] at h
      refine bk_jf tb_c_180_0 rfl (pc' := 63) rfl (t := 112) rfl (cm_ge_f g16) ?_
      refine bk_b (q := (65, [(0, .ref 135), (1, .int l1), (2, .int l2), (3, .int l3), (4, .int l4), (5, .int l5), (6, .int l6), (7, .int l7)], [.int l6])) tb_c_180_0 mx_180 1 rfl ?_
      by_cases g18 : l6 = 0
      · rw [if_pos g18] at h
        refine bk_zt tb_c_180_0 rfl (pc' := 103) rfl (cm_eq_t g18) ?_
        exact go_lv (ls_sc rfl rfl (ls_sc rfl rfl (ls_sc rfl rfl (ls_sc rfl rfl (ls_sc rfl rfl (ls_sc rfl rfl (ls_sc rfl rfl ls_nil))))))) (sn_Mo_versionOf_103 hk13 ih h)
      · rw [if_neg g18] at h
        refine bk_zf tb_c_180_0 rfl (pc' := 68) rfl (t := 103) rfl (cm_eq_f g18) ?_
        refine bk_b (q := (73, [(0, .ref 135), (1, .int l1), (2, .int l2), (3, .int l3), (4, .int l4), (5, .int l5), (6, .int l6), (7, .int l7)], [.int (1 : Int32), .int (l2 >>> (l7 &&& 31))])) tb_c_180_0 mx_180 4 rfl ?_
        refine bk_b (q := (74, [(0, .ref 135), (1, .int l1), (2, .int l2), (3, .int l3), (4, .int l4), (5, .int l5), (6, .int l6), (7, .int l7)], [.int ((l2 >>> (l7 &&& 31)) &&& (1 : Int32))])) tb_c_180_1 mx_180 1 rfl ?_
        by_cases g19 : ((l2 >>> (l7 &&& 31)) &&& (1 : Int32)) = 0
        · rw [if_pos g19] at h
          refine bk_zt tb_c_180_1 rfl (pc' := 99) rfl (cm_eq_t g19) ?_
          exact go_lv (ls_sc rfl rfl (ls_sc rfl rfl (ls_sc rfl rfl (ls_sc rfl rfl (ls_sc rfl rfl (ls_sc rfl rfl (ls_sc rfl rfl ls_nil))))))) (sn_Mo_versionOf_99 hk13 ih h)
        · rw [if_neg g19] at h
          refine bk_zf tb_c_180_1 rfl (pc' := 77) rfl (t := 99) rfl (cm_eq_f g19) ?_
          refine bk_b (q := (78, [(0, .ref 135), (1, .int l1), (2, .int l2), (3, .int l3), (4, .int l4), (5, .int l5), (6, .int l6), (7, .int l7)], [.ref 135])) tb_c_180_1 mx_180 1 rfl ?_
          refine bk_gc tb_c_180_1 rfl rfl (ci := 11) (k := 55) rfl rfl rfl ?_
          refine bk_b (q := (88, [(0, .ref 135), (1, .int l1), (2, .int l2), (3, .int l3), (4, .int l4), (5, .int l5), (6, .int l6), (7, .int l7)], [.int (((4 : Int32) * l5) + l7), .ref 161])) tb_c_180_1 mx_180 5 rfl ?_
          by_cases g20 : (((4 : Int32) * l5) + l7) < 0 ∨ 640 ≤ (((4 : Int32) * l5) + l7).toNatClampNeg
          · rw [if_pos g20] at h; cases h
          · rw [if_neg g20] at h
            refine bk_a4 tb_c_180_1 rfl rfl rfl g20 ?_
            refine bk_b (q := (90, [(0, .ref 135), (1, .int l1), (2, .int l2), (3, .int l3), (4, .int l4), (5, .int l5), (6, .int l6), (7, .int l7)], [.ref 135, .int (S.1 161 (((4 : Int32) * l5) + l7).toNatClampNeg)])) tb_c_180_1 mx_180 1 rfl ?_
            refine bk_gc tb_c_180_1 rfl rfl (ci := 11) (k := 82) rfl rfl rfl ?_
            refine bk_b (q := (95, [(0, .ref 135), (1, .int l1), (2, .int l2), (3, .int l3), (4, .int l4), (5, .int l5), (6, .int l6), (7, .int l7)], [.int l7, .ref 171, .int (S.1 161 (((4 : Int32) * l5) + l7).toNatClampNeg)])) tb_c_180_1 mx_180 1 rfl ?_
            by_cases g21 : l7 < 0 ∨ 4 ≤ l7.toNatClampNeg
            · rw [if_pos g21] at h; cases h
            · rw [if_neg g21] at h
              refine bk_a4 tb_c_180_1 rfl rfl rfl g21 ?_
              by_cases g22 : (S.1 161 (((4 : Int32) * l5) + l7).toNatClampNeg) = (S.1 171 l7.toNatClampNeg)
              · rw [if_pos g22] at h
                refine bk_jf tb_c_180_1 rfl (pc' := 99) rfl (t := 103) rfl (cm_ne_f g22) ?_
                exact go_lv (ls_sc rfl rfl (ls_sc rfl rfl (ls_sc rfl rfl (ls_sc rfl rfl (ls_sc rfl rfl (ls_sc rfl rfl (ls_sc rfl rfl ls_nil))))))) (sn_Mo_versionOf_99 hk13 ih h)
              · rw [if_neg g22] at h
                refine bk_jt tb_c_180_1 rfl (pc' := 103) rfl (cm_ne_t g22) ?_
                exact go_lv (ls_sc rfl rfl (ls_sc rfl rfl (ls_sc rfl rfl (ls_sc rfl rfl (ls_sc rfl rfl (ls_sc rfl rfl (ls_sc rfl rfl ls_nil))))))) (sn_Mo_versionOf_103 hk13 ih h)
    · rw [if_neg g16] at h
      refine bk_jt tb_c_180_0 rfl (pc' := 112) rfl (cm_ge_t g16) ?_
      refine bk_b (q := (114, [(0, .ref 135), (1, .int l1), (2, .int l2), (3, .int l3), (4, .int l4), (5, .int l5), (6, .int l6), (7, .int l7)], [.int l6])) tb_c_180_1 mx_180 1 rfl ?_
      by_cases g17 : l6 = 0
      · rw [if_pos g17] at h
        refine bk_zt tb_c_180_1 rfl (pc' := 120) rfl (cm_eq_t g17) ?_
        refine bk_b (q := (13, [(5, .int (l5 + (1 : Int32))), (0, .ref 135), (1, .int l1), (2, .int l2), (3, .int l3), (4, .int l4), (6, .int l6), (7, .int l7)], [])) tb_c_180_1 mx_180 2 rfl ?_
        exact go_lv (ls_sc rfl rfl (ls_sc rfl rfl (ls_sc rfl rfl (ls_sc rfl rfl (ls_sc rfl rfl (ls_sc rfl rfl ls_nil)))))) (hk13 h)
      · rw [if_neg g17] at h
        refine bk_zf tb_c_180_1 rfl (pc' := 117) rfl (t := 120) rfl (cm_eq_f g17) ?_
        refine bk_b (q := (119, [(0, .ref 135), (1, .int l1), (2, .int l2), (3, .int l3), (4, .int l4), (5, .int l5), (6, .int l6), (7, .int l7)], [.int l5])) tb_c_180_1 mx_180 1 rfl ?_
        cases h
        exact bk_t tb_c_180_1 rfl rfl
noncomputable def fn_Mo_versionOf_52 (kk13 : Int32 → Int32 → Int32 → Int32 → Int32 → wd_S → Option (Int32 × wd_S)) (l1 : Int32) (l2 : Int32) (l3 : Int32) (l4 : Int32) (l5 : Int32) (s0 : Int32) (S : wd_S) : Option (Int32 × wd_S) :=
  fn_Mo_versionOf_57 kk13 wd_F l1 l2 l3 l4 l5 s0 (0 : Int32) S
set_option maxRecDepth 100000 in
theorem sn_Mo_versionOf_52 {L : Nat} {xs : Nat → Int32} {kk13 : Int32 → Int32 → Int32 → Int32 → Int32 → wd_S → Option (Int32 × wd_S)} (hk13 : ∀ {l1 : Int32} {l2 : Int32} {l3 : Int32} {l4 : Int32} {l5 : Int32} {S : wd_S} {x : Int32} {S' : wd_S}, kk13 l1 l2 l3 l4 l5 S = some (x, S') → go_r tb_P L xs 0 180 13 [(0, .ref 135), (1, .int l1), (2, .int l2), (3, .int l3), (4, .int l4), (5, .int l5)] [] (wd_k S) (.inl (some (.int x)), wd_k S')) {l1 : Int32} {l2 : Int32} {l3 : Int32} {l4 : Int32} {l5 : Int32} {s0 : Int32} {S : wd_S} {x : Int32} {S' : wd_S} (h : fn_Mo_versionOf_52 kk13 l1 l2 l3 l4 l5 s0 S = some (x, S')) : go_r tb_P L xs 0 180 52 [(0, .ref 135), (1, .int l1), (2, .int l2), (3, .int l3), (4, .int l4), (5, .int l5)] [.int s0] (wd_k S) (.inl (some (.int x)), wd_k S') := by
  unfold fn_Mo_versionOf_52 at h
  refine bk_b (q := (57, [(7, .int (0 : Int32)), (6, .int s0), (0, .ref 135), (1, .int l1), (2, .int l2), (3, .int l3), (4, .int l4), (5, .int l5)], [])) tb_c_180_0 mx_180 3 rfl ?_
  exact go_lv (ls_sc rfl rfl (ls_sc rfl rfl (ls_sc rfl rfl (ls_sc rfl rfl (ls_sc rfl rfl (ls_sc rfl rfl (ls_sc rfl rfl (ls_sc rfl rfl ls_nil)))))))) (sn_Mo_versionOf_57 hk13 wd_F h)
noncomputable def fn_Mo_versionOf_51 (kk13 : Int32 → Int32 → Int32 → Int32 → Int32 → wd_S → Option (Int32 × wd_S)) (l1 : Int32) (l2 : Int32) (l3 : Int32) (l4 : Int32) (l5 : Int32) (S : wd_S) : Option (Int32 × wd_S) :=
  fn_Mo_versionOf_52 kk13 l1 l2 l3 l4 l5 (0 : Int32) S
set_option maxRecDepth 100000 in
theorem sn_Mo_versionOf_51 {L : Nat} {xs : Nat → Int32} {kk13 : Int32 → Int32 → Int32 → Int32 → Int32 → wd_S → Option (Int32 × wd_S)} (hk13 : ∀ {l1 : Int32} {l2 : Int32} {l3 : Int32} {l4 : Int32} {l5 : Int32} {S : wd_S} {x : Int32} {S' : wd_S}, kk13 l1 l2 l3 l4 l5 S = some (x, S') → go_r tb_P L xs 0 180 13 [(0, .ref 135), (1, .int l1), (2, .int l2), (3, .int l3), (4, .int l4), (5, .int l5)] [] (wd_k S) (.inl (some (.int x)), wd_k S')) {l1 : Int32} {l2 : Int32} {l3 : Int32} {l4 : Int32} {l5 : Int32} {S : wd_S} {x : Int32} {S' : wd_S} (h : fn_Mo_versionOf_51 kk13 l1 l2 l3 l4 l5 S = some (x, S')) : go_r tb_P L xs 0 180 51 [(0, .ref 135), (1, .int l1), (2, .int l2), (3, .int l3), (4, .int l4), (5, .int l5)] [] (wd_k S) (.inl (some (.int x)), wd_k S') := by
  unfold fn_Mo_versionOf_51 at h
  refine bk_b (q := (52, [(0, .ref 135), (1, .int l1), (2, .int l2), (3, .int l3), (4, .int l4), (5, .int l5)], [.int (0 : Int32)])) tb_c_180_0 mx_180 1 rfl ?_
  exact go_lv (ls_sc rfl rfl (ls_sc rfl rfl (ls_sc rfl rfl (ls_sc rfl rfl (ls_sc rfl rfl (ls_sc rfl rfl ls_nil)))))) (sn_Mo_versionOf_52 hk13 h)
noncomputable def fn_Mo_versionOf_13 : Nat → Int32 → Int32 → Int32 → Int32 → Int32 → wd_S → Option (Int32 × wd_S)
  | 0, _, _, _, _, _, _ => none
  | n + 1, l1, l2, l3, l4, l5, S =>
    (if l5 < (l4 + (S.1 135 65)) then
      (if l5 < 0 ∨ 160 ≤ l5.toNatClampNeg then none else
      (if (S.1 159 l5.toNatClampNeg) = l1 then
        (if l5 < 0 ∨ 160 ≤ l5.toNatClampNeg then none else
        (if (S.1 160 l5.toNatClampNeg) = l2 then
          fn_Mo_versionOf_52 (fn_Mo_versionOf_13 n) l1 l2 l3 l4 l5 (1 : Int32) S
        else
          fn_Mo_versionOf_51 (fn_Mo_versionOf_13 n) l1 l2 l3 l4 l5 S))
      else
        fn_Mo_versionOf_51 (fn_Mo_versionOf_13 n) l1 l2 l3 l4 l5 S))
    else
      (if l3 = 0 then
        (if (S.1 135 65) < (30 : Int32) then
          fn_Mo_versionOf_141 l1 l2 l4 S
        else
          some ((-1 : Int32), S))
      else
        fn_Mo_versionOf_141 l1 l2 l4 S))
set_option maxRecDepth 100000 in
theorem sn_Mo_versionOf_13 {L : Nat} {xs : Nat → Int32} : ∀ (n : Nat) {l1 : Int32} {l2 : Int32} {l3 : Int32} {l4 : Int32} {l5 : Int32} {S : wd_S} {x : Int32} {S' : wd_S}, fn_Mo_versionOf_13 n l1 l2 l3 l4 l5 S = some (x, S') → go_r tb_P L xs 0 180 13 [(0, .ref 135), (1, .int l1), (2, .int l2), (3, .int l3), (4, .int l4), (5, .int l5)] [] (wd_k S) (.inl (some (.int x)), wd_k S') := by
  intro n
  induction n with
  | zero => intro l1 l2 l3 l4 l5 S x S'  h; cases h
  | succ n ih =>
    intro l1 l2 l3 l4 l5 S x S'  h
    rw [fn_Mo_versionOf_13] at h
    refine bk_b (q := (18, [(0, .ref 135), (1, .int l1), (2, .int l2), (3, .int l3), (4, .int l4), (5, .int l5)], [.ref 135, .int l4, .int l5])) tb_c_180_0 mx_180 3 rfl ?_
    refine bk_gi tb_c_180_0 rfl rfl (ci := 11) (k := 65) rfl rfl rfl ?_
    refine bk_b (q := (22, [(0, .ref 135), (1, .int l1), (2, .int l2), (3, .int l3), (4, .int l4), (5, .int l5)], [.int (l4 + (S.1 135 65)), .int l5])) tb_c_180_0 mx_180 1 rfl ?_
    by_cases g1 : l5 < (l4 + (S.1 135 65))
    · rw [if_pos g1] at h
      refine bk_jf tb_c_180_0 rfl (pc' := 25) rfl (t := 126) rfl (cm_ge_f g1) ?_
      refine bk_b (q := (26, [(0, .ref 135), (1, .int l1), (2, .int l2), (3, .int l3), (4, .int l4), (5, .int l5)], [.ref 135])) tb_c_180_0 mx_180 1 rfl ?_
      refine bk_gc tb_c_180_0 rfl rfl (ci := 11) (k := 53) rfl rfl rfl ?_
      refine bk_b (q := (31, [(0, .ref 135), (1, .int l1), (2, .int l2), (3, .int l3), (4, .int l4), (5, .int l5)], [.int l5, .ref 159])) tb_c_180_0 mx_180 1 rfl ?_
      by_cases g14 : l5 < 0 ∨ 160 ≤ l5.toNatClampNeg
      · rw [if_pos g14] at h; cases h
      · rw [if_neg g14] at h
        refine bk_a4 tb_c_180_0 rfl rfl rfl g14 ?_
        refine bk_b (q := (33, [(0, .ref 135), (1, .int l1), (2, .int l2), (3, .int l3), (4, .int l4), (5, .int l5)], [.int l1, .int (S.1 159 l5.toNatClampNeg)])) tb_c_180_0 mx_180 1 rfl ?_
        by_cases g15 : (S.1 159 l5.toNatClampNeg) = l1
        · rw [if_pos g15] at h
          refine bk_jf tb_c_180_0 rfl (pc' := 36) rfl (t := 51) rfl (cm_ne_f g15) ?_
          refine bk_b (q := (37, [(0, .ref 135), (1, .int l1), (2, .int l2), (3, .int l3), (4, .int l4), (5, .int l5)], [.ref 135])) tb_c_180_0 mx_180 1 rfl ?_
          refine bk_gc tb_c_180_0 rfl rfl (ci := 11) (k := 54) rfl rfl rfl ?_
          refine bk_b (q := (42, [(0, .ref 135), (1, .int l1), (2, .int l2), (3, .int l3), (4, .int l4), (5, .int l5)], [.int l5, .ref 160])) tb_c_180_0 mx_180 1 rfl ?_
          by_cases g23 : l5 < 0 ∨ 160 ≤ l5.toNatClampNeg
          · rw [if_pos g23] at h; cases h
          · rw [if_neg g23] at h
            refine bk_a4 tb_c_180_0 rfl rfl rfl g23 ?_
            refine bk_b (q := (44, [(0, .ref 135), (1, .int l1), (2, .int l2), (3, .int l3), (4, .int l4), (5, .int l5)], [.int l2, .int (S.1 160 l5.toNatClampNeg)])) tb_c_180_0 mx_180 1 rfl ?_
            by_cases g24 : (S.1 160 l5.toNatClampNeg) = l2
            · rw [if_pos g24] at h
              refine bk_jf tb_c_180_0 rfl (pc' := 47) rfl (t := 51) rfl (cm_ne_f g24) ?_
              refine bk_b (q := (52, [(0, .ref 135), (1, .int l1), (2, .int l2), (3, .int l3), (4, .int l4), (5, .int l5)], [.int (1 : Int32)])) tb_c_180_0 mx_180 2 rfl ?_
              exact go_lv (ls_sc rfl rfl (ls_sc rfl rfl (ls_sc rfl rfl (ls_sc rfl rfl (ls_sc rfl rfl (ls_sc rfl rfl ls_nil)))))) (sn_Mo_versionOf_52 ih h)
            · rw [if_neg g24] at h
              refine bk_jt tb_c_180_0 rfl (pc' := 51) rfl (cm_ne_t g24) ?_
              exact go_lv (ls_sc rfl rfl (ls_sc rfl rfl (ls_sc rfl rfl (ls_sc rfl rfl (ls_sc rfl rfl (ls_sc rfl rfl ls_nil)))))) (sn_Mo_versionOf_51 ih h)
        · rw [if_neg g15] at h
          refine bk_jt tb_c_180_0 rfl (pc' := 51) rfl (cm_ne_t g15) ?_
          exact go_lv (ls_sc rfl rfl (ls_sc rfl rfl (ls_sc rfl rfl (ls_sc rfl rfl (ls_sc rfl rfl (ls_sc rfl rfl ls_nil)))))) (sn_Mo_versionOf_51 ih h)
    · rw [if_neg g1] at h
      refine bk_jt tb_c_180_0 rfl (pc' := 126) rfl (cm_ge_t g1) ?_
      refine bk_b (q := (127, [(0, .ref 135), (1, .int l1), (2, .int l2), (3, .int l3), (4, .int l4), (5, .int l5)], [.int l3])) tb_c_180_1 mx_180 1 rfl ?_
      by_cases g2 : l3 = 0
      · rw [if_pos g2] at h
        refine bk_zf tb_c_180_1 rfl (pc' := 130) rfl (t := 141) rfl (cm_ne_f g2) ?_
        refine bk_b (q := (131, [(0, .ref 135), (1, .int l1), (2, .int l2), (3, .int l3), (4, .int l4), (5, .int l5)], [.ref 135])) tb_c_180_1 mx_180 1 rfl ?_
        refine bk_gi tb_c_180_1 rfl rfl (ci := 11) (k := 65) rfl rfl rfl ?_
        refine bk_b (q := (136, [(0, .ref 135), (1, .int l1), (2, .int l2), (3, .int l3), (4, .int l4), (5, .int l5)], [.int (30 : Int32), .int (S.1 135 65)])) tb_c_180_1 mx_180 1 rfl ?_
        by_cases g13 : (S.1 135 65) < (30 : Int32)
        · rw [if_pos g13] at h
          refine bk_jt tb_c_180_1 rfl (pc' := 141) rfl (cm_lt_t g13) ?_
          exact go_lv (ls_sc rfl rfl (ls_sc rfl rfl (ls_sc rfl rfl (ls_sc rfl rfl ls_nil)))) (sn_Mo_versionOf_141 h)
        · rw [if_neg g13] at h
          refine bk_jf tb_c_180_1 rfl (pc' := 139) rfl (t := 141) rfl (cm_lt_f g13) ?_
          refine bk_b (q := (140, [(0, .ref 135), (1, .int l1), (2, .int l2), (3, .int l3), (4, .int l4), (5, .int l5)], [.int (-1 : Int32)])) tb_c_180_1 mx_180 1 rfl ?_
          cases h
          exact bk_t tb_c_180_1 rfl rfl
      · rw [if_neg g2] at h
        refine bk_zt tb_c_180_1 rfl (pc' := 141) rfl (cm_ne_t g2) ?_
        exact go_lv (ls_sc rfl rfl (ls_sc rfl rfl (ls_sc rfl rfl (ls_sc rfl rfl ls_nil)))) (sn_Mo_versionOf_141 h)
/-- SpecialiserModel.versionOf(IIZ)I -/
noncomputable def fn_Mo_versionOf (p1 : Int32) (p2 : Int32) (p3 : Int32) (S : wd_S) : Option (Int32 × wd_S) :=
  fn_Mo_versionOf_13 wd_F p1 p2 p3 ((80 : Int32) * (S.1 135 64)) ((80 : Int32) * (S.1 135 64)) S
set_option maxRecDepth 100000 in
theorem sn_Mo_versionOf {L : Nat} {xs : Nat → Int32} {p1 : Int32} {p2 : Int32} {p3 : Int32} {S : wd_S} {x : Int32} {S' : wd_S} (h : fn_Mo_versionOf p1 p2 p3 S = some (x, S')) : ev_r tb_P L xs (0 + 1) 180 [.ref 135, .int p1, .int p2, .int p3] (wd_k S) (.inl (some (.int x)), wd_k S') := by
  unfold fn_Mo_versionOf at h
  refine ev_of (Nat.le_of_ble_eq_true rfl) ?_
  show go_r tb_P L xs 0 180 0 [(0, .ref 135), (1, .int p1), (2, .int p2), (3, .int p3)] [] (wd_k S) (.inl (some (.int x)), wd_k S')
  refine bk_b (q := (3, [(0, .ref 135), (1, .int p1), (2, .int p2), (3, .int p3)], [.ref 135, .int (80 : Int32)])) tb_c_180_0 mx_180 2 rfl ?_
  refine bk_gi tb_c_180_0 rfl rfl (ci := 11) (k := 64) rfl rfl rfl ?_
  refine bk_b (q := (13, [(5, .int ((80 : Int32) * (S.1 135 64))), (4, .int ((80 : Int32) * (S.1 135 64))), (0, .ref 135), (1, .int p1), (2, .int p2), (3, .int p3)], [])) tb_c_180_0 mx_180 4 rfl ?_
  exact go_lv (ls_sc rfl rfl (ls_sc rfl rfl (ls_sc rfl rfl (ls_sc rfl rfl (ls_sc rfl rfl (ls_sc rfl rfl ls_nil)))))) (sn_Mo_versionOf_13 wd_F h)
