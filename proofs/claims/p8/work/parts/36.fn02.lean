/-! Methods as functions: printed by wip/whole/gen_fn.py. -/
theorem mx_40 : mi_mx tb_P 40 = 4 := rfl
noncomputable def fn_Reader_takeParam_47 (s1 : Int32) (s2 : Int32) (S : wd_S) : Option wd_S :=
  (wd_c (fn_Reader_takeNewName s1 s2 S) fun x10 S9 =>
  (wd_d (fn_Reader_enter x10 (S9.1 47 8) S9) fun S12 =>
  (wd_b (wd_i S12 47 8 ((S12.1 47 8) + (1 : Int32))) fun S15 =>
  some S15)))
set_option maxRecDepth 100000 in
theorem sn_Reader_takeParam_47 {L : Nat} {xs : Nat → Int32} {s1 : Int32} {s2 : Int32} {S : wd_S} {S' : wd_S} (h : fn_Reader_takeParam_47 s1 s2 S = some S') : go_r tb_P L xs 4 40 47 [(0, .ref 47)] [.int s2, .int s1, .ref 47] (wd_k S) (.inl none, wd_k S') := by
  unfold fn_Reader_takeParam_47 at h
  obtain ⟨x10, S9, c11, h⟩ := wd_cx h
  refine bk_kv tb_c_40_0 rfl rfl rfl rfl rfl (ci := 4) rfl rfl (ev_up (Nat.le_of_ble_eq_true rfl) (sn_Reader_takeNewName c11)) ?_
  refine bk_b (q := (54, [(2, .long x10), (0, .ref 47)], [.ref 47, .long x10, .ref 47])) tb_c_40_0 mx_40 4 rfl ?_
  refine bk_gi tb_c_40_0 rfl rfl (ci := 4) (k := 8) rfl rfl rfl ?_
  obtain ⟨S12, c14, h⟩ := wd_dx h
  refine bk_kv tb_c_40_0 rfl rfl rfl rfl rfl (ci := 4) rfl rfl (ev_up (Nat.le_of_ble_eq_true rfl) (sn_Reader_enter c14)) ?_
  refine bk_b (q := (62, [(2, .long x10), (0, .ref 47)], [.ref 47, .ref 47])) tb_c_40_0 mx_40 2 rfl ?_
  refine bk_gi tb_c_40_0 rfl rfl (ci := 4) (k := 8) rfl rfl rfl ?_
  refine bk_b (q := (67, [(2, .long x10), (0, .ref 47)], [.int ((S12.1 47 8) + (1 : Int32)), .ref 47])) tb_c_40_0 mx_40 2 rfl ?_
  obtain ⟨S15, eS15, h⟩ := wd_bx h
  refine bk_pi tb_c_40_0 rfl rfl (ci := 4) (k := 8) rfl rfl rfl rfl ?_
  rw [eS15]
  cases h
  exact bk_t tb_c_40_0 rfl rfl
noncomputable def fn_Reader_takeParam_31 (s0 : Int32) (S : wd_S) : Option wd_S :=
  (if (S.1 47 8) < (4 : Int32) then
    fn_Reader_takeParam_47 s0 (0 : Int32) S
  else
    fn_Reader_takeParam_47 s0 (1 : Int32) S)
set_option maxRecDepth 100000 in
theorem sn_Reader_takeParam_31 {L : Nat} {xs : Nat → Int32} {s0 : Int32} {S : wd_S} {S' : wd_S} (h : fn_Reader_takeParam_31 s0 S = some S') : go_r tb_P L xs 4 40 31 [(0, .ref 47)] [.int s0] (wd_k S) (.inl none, wd_k S') := by
  unfold fn_Reader_takeParam_31 at h
  refine bk_b (q := (35, [(1, .int s0), (0, .ref 47)], [.ref 47, .int s0, .ref 47])) tb_c_40_0 mx_40 4 rfl ?_
  refine bk_gi tb_c_40_0 rfl rfl (ci := 4) (k := 8) rfl rfl rfl ?_
  refine bk_b (q := (39, [(1, .int s0), (0, .ref 47)], [.int (4 : Int32), .int (S.1 47 8), .int s0, .ref 47])) tb_c_40_0 mx_40 1 rfl ?_
  by_cases g8 : (S.1 47 8) < (4 : Int32)
  · rw [if_pos g8] at h
    refine bk_jt tb_c_40_0 rfl (pc' := 46) rfl (cm_lt_t g8) ?_
    refine bk_b (q := (47, [(1, .int s0), (0, .ref 47)], [.int (0 : Int32), .int s0, .ref 47])) tb_c_40_0 mx_40 1 rfl ?_
    exact go_lv (ls_sc rfl rfl ls_nil) (sn_Reader_takeParam_47 h)
  · rw [if_neg g8] at h
    refine bk_jf tb_c_40_0 rfl (pc' := 42) rfl (t := 46) rfl (cm_lt_f g8) ?_
    refine bk_b (q := (47, [(1, .int s0), (0, .ref 47)], [.int (1 : Int32), .int s0, .ref 47])) tb_c_40_0 mx_40 2 rfl ?_
    exact go_lv (ls_sc rfl rfl ls_nil) (sn_Reader_takeParam_47 h)
/-- Specialiser$Reader.takeParam()V -/
noncomputable def fn_Reader_takeParam (S : wd_S) : Option wd_S :=
  (wd_c (fn_Tokens_value (S.1 47 3) S) fun x2 S1 =>
  (wd_c (fn_LongRow_lastOf 50 x2 (S1.1 47 11) S1) fun x5 S4 =>
  (if x5 = (-1 : Int32) then
    fn_Reader_takeParam_31 (0 : Int32) S4
  else
    fn_Reader_takeParam_31 (1 : Int32) S4)))
set_option maxRecDepth 100000 in
theorem sn_Reader_takeParam {L : Nat} {xs : Nat → Int32} {S : wd_S} {S' : wd_S} (h : fn_Reader_takeParam  S = some S') : ev_r tb_P L xs (4 + 1) 40 [.ref 47] (wd_k S) (.inl none, wd_k S') := by
  unfold fn_Reader_takeParam at h
  refine ev_of (Nat.le_of_ble_eq_true rfl) ?_
  show go_r tb_P L xs 4 40 0 [(0, .ref 47)] [] (wd_k S) (.inl none, wd_k S')
  refine bk_b (q := (1, [(0, .ref 47)], [.ref 47])) tb_c_40_0 mx_40 1 rfl ?_
  refine bk_gc tb_c_40_0 rfl rfl (ci := 4) (k := 9) rfl rfl rfl ?_
  refine bk_b (q := (5, [(0, .ref 47)], [.ref 47, .ref 50])) tb_c_40_0 mx_40 1 rfl ?_
  refine bk_gc tb_c_40_0 rfl rfl (ci := 4) (k := 0) rfl rfl rfl ?_
  refine bk_b (q := (9, [(0, .ref 47)], [.ref 47, .ref 4, .ref 50])) tb_c_40_0 mx_40 1 rfl ?_
  refine bk_gi tb_c_40_0 rfl rfl (ci := 4) (k := 3) rfl rfl rfl ?_
  obtain ⟨x2, S1, c3, h⟩ := wd_cx h
  refine bk_kv tb_c_40_0 rfl rfl rfl rfl rfl (ci := 7) rfl rfl (ev_up (Nat.le_of_ble_eq_true rfl) (sn_Tokens_value c3)) ?_
  refine bk_b (q := (16, [(0, .ref 47)], [.ref 47, .long x2, .ref 50])) tb_c_40_0 mx_40 1 rfl ?_
  refine bk_gi tb_c_40_0 rfl rfl (ci := 4) (k := 11) rfl rfl rfl ?_
  obtain ⟨x5, S4, c6, h⟩ := wd_cx h
  refine bk_kv tb_c_40_0 rfl rfl rfl rfl rfl (ci := 1) rfl rfl (ev_up (Nat.le_of_ble_eq_true rfl) (sn_LongRow_lastOf rfl c6)) ?_
  refine bk_b (q := (23, [(0, .ref 47)], [.int (-1 : Int32), .int x5])) tb_c_40_0 mx_40 1 rfl ?_
  by_cases g7 : x5 = (-1 : Int32)
  · rw [if_pos g7] at h
    refine bk_jt tb_c_40_0 rfl (pc' := 30) rfl (cm_eq_t g7) ?_
    refine bk_b (q := (31, [(0, .ref 47)], [.int (0 : Int32)])) tb_c_40_0 mx_40 1 rfl ?_
    exact go_lv (ls_sc rfl rfl ls_nil) (sn_Reader_takeParam_31 h)
  · rw [if_neg g7] at h
    refine bk_jf tb_c_40_0 rfl (pc' := 26) rfl (t := 30) rfl (cm_eq_f g7) ?_
    refine bk_b (q := (31, [(0, .ref 47)], [.int (1 : Int32)])) tb_c_40_0 mx_40 2 rfl ?_
    exact go_lv (ls_sc rfl rfl ls_nil) (sn_Reader_takeParam_31 h)
theorem mx_42 : mi_mx tb_P 42 = 2 := rfl
/-- Specialiser$Bodies.add(I)I -/
noncomputable def fn_Bodies_add (p0 : Nat) (p1 : Int32) (S : wd_S) : Option (Int32 × wd_S) :=
  (wd_d (fn_Row_put (p0 + 16) (S.1 p0 3) p1 S) fun S1 =>
  (wd_b (wd_i S1 p0 3 ((S1.1 p0 3) + (1 : Int32))) fun S4 =>
  some (((S4.1 p0 3) - (1 : Int32)), S4)))
set_option maxRecDepth 100000 in
theorem sn_Bodies_add {L : Nat} {xs : Nat → Int32} {p0 : Nat} {p1 : Int32} {S : wd_S} {x : Int32} {S' : wd_S} (hp0 : tp_t p0 = (0, 0)) (h : fn_Bodies_add p0 p1 S = some (x, S')) : ev_r tb_P L xs (1 + 1) 42 [.ref p0, .int p1] (wd_k S) (.inl (some (.int x)), wd_k S') := by
  unfold fn_Bodies_add at h
  refine ev_of (Nat.le_of_ble_eq_true rfl) ?_
  show go_r tb_P L xs 1 42 0 [(0, .ref p0), (1, .int p1)] [] (wd_k S) (.inl (some (.int x)), wd_k S')
  refine bk_b (q := (1, [(0, .ref p0), (1, .int p1)], [.ref p0])) tb_c_42_0 mx_42 1 rfl ?_
  refine bk_go tb_c_42_0 rfl rfl (ci := 0) (k := 2) rfl hp0 rfl ?_
  refine bk_b (q := (5, [(0, .ref p0), (1, .int p1)], [.ref p0, .ref (p0 + 16)])) tb_c_42_0 mx_42 1 rfl ?_
  refine bk_gi tb_c_42_0 rfl rfl (ci := 0) (k := 3) rfl hp0 rfl ?_
  refine bk_b (q := (9, [(0, .ref p0), (1, .int p1)], [.int p1, .int (S.1 p0 3), .ref (p0 + 16)])) tb_c_42_0 mx_42 1 rfl ?_
  obtain ⟨S1, c3, h⟩ := wd_dx h
  refine bk_kv tb_c_42_0 rfl rfl rfl rfl rfl (ci := 5) (tp_0_2 hp0) rfl (ev_up (Nat.le_of_ble_eq_true rfl) (sn_Row_put (tp_0_2 hp0) c3)) ?_
  refine bk_b (q := (14, [(0, .ref p0), (1, .int p1)], [.ref p0, .ref p0])) tb_c_42_0 mx_42 2 rfl ?_
  refine bk_gi tb_c_42_0 rfl rfl (ci := 0) (k := 3) rfl hp0 rfl ?_
  refine bk_b (q := (19, [(0, .ref p0), (1, .int p1)], [.int ((S1.1 p0 3) + (1 : Int32)), .ref p0])) tb_c_42_0 mx_42 2 rfl ?_
  obtain ⟨S4, eS4, h⟩ := wd_bx h
  refine bk_pi tb_c_42_0 rfl rfl (ci := 0) (k := 3) rfl hp0 rfl rfl ?_
  rw [eS4]
  refine bk_b (q := (23, [(0, .ref p0), (1, .int p1)], [.ref p0])) tb_c_42_0 mx_42 1 rfl ?_
  refine bk_gi tb_c_42_0 rfl rfl (ci := 0) (k := 3) rfl hp0 rfl ?_
  refine bk_b (q := (28, [(0, .ref p0), (1, .int p1)], [.int ((S4.1 p0 3) - (1 : Int32))])) tb_c_42_0 mx_42 2 rfl ?_
  cases h
  exact bk_t tb_c_42_0 rfl rfl
theorem mx_44 : mi_mx tb_P 44 = 1 := rfl
noncomputable def fn_Reader_refuseWithin_97 (S : wd_S) : Option wd_S :=
  some S
set_option maxRecDepth 100000 in
theorem sn_Reader_refuseWithin_97 {L : Nat} {xs : Nat → Int32} {S : wd_S} {S' : wd_S} (h : fn_Reader_refuseWithin_97  S = some S') : go_r tb_P L xs 2 44 97 [] [] (wd_k S) (.inl none, wd_k S') := by
  unfold fn_Reader_refuseWithin_97 at h
  cases h
  exact bk_t tb_c_44_0 rfl rfl
/-- Specialiser$Reader.refuseWithin()V -/
noncomputable def fn_Reader_refuseWithin (S : wd_S) : Option wd_S :=
  (if (S.1 47 4) = (1 : Int32) then
    (wd_d (fn_Reader_faultAt (6 : Int32) (S.1 47 3) S) fun S2 =>
    fn_Reader_refuseWithin_97  S2)
  else
  (if (S.1 47 4) = (2 : Int32) then
    (wd_d (fn_Reader_faultAt (6 : Int32) (S.1 47 3) S) fun S6 =>
    fn_Reader_refuseWithin_97  S6)
  else
  (if (S.1 47 4) = (3 : Int32) then
    (wd_d (fn_Reader_faultAt (6 : Int32) (S.1 47 3) S) fun S10 =>
    fn_Reader_refuseWithin_97  S10)
  else
  (if (S.1 47 4) = (4 : Int32) then
    (wd_d (fn_Reader_faultAt (6 : Int32) (S.1 47 3) S) fun S14 =>
    fn_Reader_refuseWithin_97  S14)
  else
  (if (S.1 47 4) = (5 : Int32) then
    (wd_d (fn_Reader_refuse  S) fun S18 =>
    fn_Reader_refuseWithin_97  S18)
  else
  (if (S.1 47 4) = (6 : Int32) then
    (wd_d (fn_Reader_refuse  S) fun S22 =>
    fn_Reader_refuseWithin_97  S22)
  else
  (if (S.1 47 4) = (7 : Int32) then
    (wd_d (fn_Reader_faultAt (6 : Int32) (S.1 47 3) S) fun S26 =>
    fn_Reader_refuseWithin_97  S26)
  else
  (if (S.1 47 4) = (8 : Int32) then
    (wd_d (fn_Reader_refuse  S) fun S30 =>
    fn_Reader_refuseWithin_97  S30)
  else
  (if (S.1 47 4) = (9 : Int32) then
    (wd_d (fn_Reader_refuse  S) fun S34 =>
    fn_Reader_refuseWithin_97  S34)
  else
  (if (S.1 47 4) = (10 : Int32) then
    (wd_d (fn_Reader_refuse  S) fun S38 =>
    fn_Reader_refuseWithin_97  S38)
  else
  (if (S.1 47 4) = (11 : Int32) then
    (wd_d (fn_Reader_refuse  S) fun S42 =>
    fn_Reader_refuseWithin_97  S42)
  else
  (if (S.1 47 4) = (12 : Int32) then
    (wd_d (fn_Reader_refuse  S) fun S46 =>
    fn_Reader_refuseWithin_97  S46)
  else
  (if (S.1 47 4) = (13 : Int32) then
    (wd_d (fn_Reader_refuse  S) fun S50 =>
    fn_Reader_refuseWithin_97  S50)
  else
  (if (S.1 47 4) = (14 : Int32) then
    (wd_d (fn_Reader_refuse  S) fun S54 =>
    fn_Reader_refuseWithin_97  S54)
  else
  (if (S.1 47 4) = (15 : Int32) then
    (wd_d (fn_Reader_faultAt (6 : Int32) (S.1 47 3) S) fun S58 =>
    fn_Reader_refuseWithin_97  S58)
  else
  (wd_d (fn_Reader_refuse  S) fun S61 =>
  fn_Reader_refuseWithin_97  S61))))))))))))))))
set_option maxRecDepth 100000 in
theorem sn_Reader_refuseWithin {L : Nat} {xs : Nat → Int32} {S : wd_S} {S' : wd_S} (h : fn_Reader_refuseWithin  S = some S') : ev_r tb_P L xs (2 + 1) 44 [.ref 47] (wd_k S) (.inl none, wd_k S') := by
  unfold fn_Reader_refuseWithin at h
  refine ev_of (Nat.le_of_ble_eq_true rfl) ?_
  show go_r tb_P L xs 2 44 0 [(0, .ref 47)] [] (wd_k S) (.inl none, wd_k S')
  refine bk_b (q := (1, [(0, .ref 47)], [.ref 47])) tb_c_44_0 mx_44 1 rfl ?_
  refine bk_gi tb_c_44_0 rfl rfl (ci := 4) (k := 4) rfl rfl rfl ?_
  by_cases g1 : (S.1 47 4) = (1 : Int32)
  · rw [if_pos g1] at h
    refine bk_sw tb_c_44_0 rfl (pc' := 80) (by rw [g1]; rfl) ?_
    refine bk_b (q := (84, [(0, .ref 47)], [.ref 47, .int (6 : Int32), .ref 47])) tb_c_44_0 mx_44 3 rfl ?_
    refine bk_gi tb_c_44_0 rfl rfl (ci := 4) (k := 3) rfl rfl rfl ?_
    obtain ⟨S2, c4, h⟩ := wd_dx h
    refine bk_kv tb_c_44_0 rfl rfl rfl rfl rfl (ci := 4) rfl rfl (ev_up (Nat.le_of_ble_eq_true rfl) (sn_Reader_faultAt c4)) ?_
    refine bk_b (q := (97, [(0, .ref 47)], [])) tb_c_44_0 mx_44 1 rfl ?_
    exact go_lv ls_nil (sn_Reader_refuseWithin_97 h)
  · rw [if_neg g1] at h
    by_cases g5 : (S.1 47 4) = (2 : Int32)
    · rw [if_pos g5] at h
      refine bk_sw tb_c_44_0 rfl (pc' := 80) (by rw [g5]; rfl) ?_
      refine bk_b (q := (84, [(0, .ref 47)], [.ref 47, .int (6 : Int32), .ref 47])) tb_c_44_0 mx_44 3 rfl ?_
      refine bk_gi tb_c_44_0 rfl rfl (ci := 4) (k := 3) rfl rfl rfl ?_
      obtain ⟨S6, c8, h⟩ := wd_dx h
      refine bk_kv tb_c_44_0 rfl rfl rfl rfl rfl (ci := 4) rfl rfl (ev_up (Nat.le_of_ble_eq_true rfl) (sn_Reader_faultAt c8)) ?_
      refine bk_b (q := (97, [(0, .ref 47)], [])) tb_c_44_0 mx_44 1 rfl ?_
      exact go_lv ls_nil (sn_Reader_refuseWithin_97 h)
    · rw [if_neg g5] at h
      by_cases g9 : (S.1 47 4) = (3 : Int32)
      · rw [if_pos g9] at h
        refine bk_sw tb_c_44_0 rfl (pc' := 80) (by rw [g9]; rfl) ?_
        refine bk_b (q := (84, [(0, .ref 47)], [.ref 47, .int (6 : Int32), .ref 47])) tb_c_44_0 mx_44 3 rfl ?_
        refine bk_gi tb_c_44_0 rfl rfl (ci := 4) (k := 3) rfl rfl rfl ?_
        obtain ⟨S10, c12, h⟩ := wd_dx h
        refine bk_kv tb_c_44_0 rfl rfl rfl rfl rfl (ci := 4) rfl rfl (ev_up (Nat.le_of_ble_eq_true rfl) (sn_Reader_faultAt c12)) ?_
        refine bk_b (q := (97, [(0, .ref 47)], [])) tb_c_44_0 mx_44 1 rfl ?_
        exact go_lv ls_nil (sn_Reader_refuseWithin_97 h)
      · rw [if_neg g9] at h
        by_cases g13 : (S.1 47 4) = (4 : Int32)
        · rw [if_pos g13] at h
          refine bk_sw tb_c_44_0 rfl (pc' := 80) (by rw [g13]; rfl) ?_
          refine bk_b (q := (84, [(0, .ref 47)], [.ref 47, .int (6 : Int32), .ref 47])) tb_c_44_0 mx_44 3 rfl ?_
          refine bk_gi tb_c_44_0 rfl rfl (ci := 4) (k := 3) rfl rfl rfl ?_
          obtain ⟨S14, c16, h⟩ := wd_dx h
          refine bk_kv tb_c_44_0 rfl rfl rfl rfl rfl (ci := 4) rfl rfl (ev_up (Nat.le_of_ble_eq_true rfl) (sn_Reader_faultAt c16)) ?_
          refine bk_b (q := (97, [(0, .ref 47)], [])) tb_c_44_0 mx_44 1 rfl ?_
          exact go_lv ls_nil (sn_Reader_refuseWithin_97 h)
        · rw [if_neg g13] at h
          by_cases g17 : (S.1 47 4) = (5 : Int32)
          · rw [if_pos g17] at h
            refine bk_sw tb_c_44_0 rfl (pc' := 93) (by rw [g17]; rfl) ?_
            refine bk_b (q := (94, [(0, .ref 47)], [.ref 47])) tb_c_44_0 mx_44 1 rfl ?_
            obtain ⟨S18, c20, h⟩ := wd_dx h
            refine bk_kv tb_c_44_0 rfl rfl rfl rfl rfl (ci := 4) rfl rfl (ev_up (Nat.le_of_ble_eq_true rfl) (sn_Reader_refuse c20)) ?_
            exact go_lv ls_nil (sn_Reader_refuseWithin_97 h)
          · rw [if_neg g17] at h
            by_cases g21 : (S.1 47 4) = (6 : Int32)
            · rw [if_pos g21] at h
              refine bk_sw tb_c_44_0 rfl (pc' := 93) (by rw [g21]; rfl) ?_
              refine bk_b (q := (94, [(0, .ref 47)], [.ref 47])) tb_c_44_0 mx_44 1 rfl ?_
              obtain ⟨S22, c24, h⟩ := wd_dx h
              refine bk_kv tb_c_44_0 rfl rfl rfl rfl rfl (ci := 4) rfl rfl (ev_up (Nat.le_of_ble_eq_true rfl) (sn_Reader_refuse c24)) ?_
              exact go_lv ls_nil (sn_Reader_refuseWithin_97 h)
            · rw [if_neg g21] at h
              by_cases g25 : (S.1 47 4) = (7 : Int32)
              · rw [if_pos g25] at h
                refine bk_sw tb_c_44_0 rfl (pc' := 80) (by rw [g25]; rfl) ?_
                refine bk_b (q := (84, [(0, .ref 47)], [.ref 47, .int (6 : Int32), .ref 47])) tb_c_44_0 mx_44 3 rfl ?_
                refine bk_gi tb_c_44_0 rfl rfl (ci := 4) (k := 3) rfl rfl rfl ?_
                obtain ⟨S26, c28, h⟩ := wd_dx h
                refine bk_kv tb_c_44_0 rfl rfl rfl rfl rfl (ci := 4) rfl rfl (ev_up (Nat.le_of_ble_eq_true rfl) (sn_Reader_faultAt c28)) ?_
                refine bk_b (q := (97, [(0, .ref 47)], [])) tb_c_44_0 mx_44 1 rfl ?_
                exact go_lv ls_nil (sn_Reader_refuseWithin_97 h)
              · rw [if_neg g25] at h
                by_cases g29 : (S.1 47 4) = (8 : Int32)
                · rw [if_pos g29] at h
                  refine bk_sw tb_c_44_0 rfl (pc' := 93) (by rw [g29]; rfl) ?_
                  refine bk_b (q := (94, [(0, .ref 47)], [.ref 47])) tb_c_44_0 mx_44 1 rfl ?_
                  obtain ⟨S30, c32, h⟩ := wd_dx h
                  refine bk_kv tb_c_44_0 rfl rfl rfl rfl rfl (ci := 4) rfl rfl (ev_up (Nat.le_of_ble_eq_true rfl) (sn_Reader_refuse c32)) ?_
                  exact go_lv ls_nil (sn_Reader_refuseWithin_97 h)
                · rw [if_neg g29] at h
                  by_cases g33 : (S.1 47 4) = (9 : Int32)
                  · rw [if_pos g33] at h
                    refine bk_sw tb_c_44_0 rfl (pc' := 93) (by rw [g33]; rfl) ?_
                    refine bk_b (q := (94, [(0, .ref 47)], [.ref 47])) tb_c_44_0 mx_44 1 rfl ?_
                    obtain ⟨S34, c36, h⟩ := wd_dx h
                    refine bk_kv tb_c_44_0 rfl rfl rfl rfl rfl (ci := 4) rfl rfl (ev_up (Nat.le_of_ble_eq_true rfl) (sn_Reader_refuse c36)) ?_
                    exact go_lv ls_nil (sn_Reader_refuseWithin_97 h)
                  · rw [if_neg g33] at h
                    by_cases g37 : (S.1 47 4) = (10 : Int32)
                    · rw [if_pos g37] at h
                      refine bk_sw tb_c_44_0 rfl (pc' := 93) (by rw [g37]; rfl) ?_
                      refine bk_b (q := (94, [(0, .ref 47)], [.ref 47])) tb_c_44_0 mx_44 1 rfl ?_
                      obtain ⟨S38, c40, h⟩ := wd_dx h
                      refine bk_kv tb_c_44_0 rfl rfl rfl rfl rfl (ci := 4) rfl rfl (ev_up (Nat.le_of_ble_eq_true rfl) (sn_Reader_refuse c40)) ?_
                      exact go_lv ls_nil (sn_Reader_refuseWithin_97 h)
                    · rw [if_neg g37] at h
                      by_cases g41 : (S.1 47 4) = (11 : Int32)
                      · rw [if_pos g41] at h
                        refine bk_sw tb_c_44_0 rfl (pc' := 93) (by rw [g41]; rfl) ?_
                        refine bk_b (q := (94, [(0, .ref 47)], [.ref 47])) tb_c_44_0 mx_44 1 rfl ?_
                        obtain ⟨S42, c44, h⟩ := wd_dx h
                        refine bk_kv tb_c_44_0 rfl rfl rfl rfl rfl (ci := 4) rfl rfl (ev_up (Nat.le_of_ble_eq_true rfl) (sn_Reader_refuse c44)) ?_
                        exact go_lv ls_nil (sn_Reader_refuseWithin_97 h)
                      · rw [if_neg g41] at h
                        by_cases g45 : (S.1 47 4) = (12 : Int32)
                        · rw [if_pos g45] at h
                          refine bk_sw tb_c_44_0 rfl (pc' := 93) (by rw [g45]; rfl) ?_
                          refine bk_b (q := (94, [(0, .ref 47)], [.ref 47])) tb_c_44_0 mx_44 1 rfl ?_
                          obtain ⟨S46, c48, h⟩ := wd_dx h
                          refine bk_kv tb_c_44_0 rfl rfl rfl rfl rfl (ci := 4) rfl rfl (ev_up (Nat.le_of_ble_eq_true rfl) (sn_Reader_refuse c48)) ?_
                          exact go_lv ls_nil (sn_Reader_refuseWithin_97 h)
                        · rw [if_neg g45] at h
                          by_cases g49 : (S.1 47 4) = (13 : Int32)
                          · rw [if_pos g49] at h
                            refine bk_sw tb_c_44_0 rfl (pc' := 93) (by rw [g49]; rfl) ?_
                            refine bk_b (q := (94, [(0, .ref 47)], [.ref 47])) tb_c_44_0 mx_44 1 rfl ?_
                            obtain ⟨S50, c52, h⟩ := wd_dx h
                            refine bk_kv tb_c_44_0 rfl rfl rfl rfl rfl (ci := 4) rfl rfl (ev_up (Nat.le_of_ble_eq_true rfl) (sn_Reader_refuse c52)) ?_
                            exact go_lv ls_nil (sn_Reader_refuseWithin_97 h)
                          · rw [if_neg g49] at h
                            by_cases g53 : (S.1 47 4) = (14 : Int32)
                            · rw [if_pos g53] at h
                              refine bk_sw tb_c_44_0 rfl (pc' := 93) (by rw [g53]; rfl) ?_
                              refine bk_b (q := (94, [(0, .ref 47)], [.ref 47])) tb_c_44_0 mx_44 1 rfl ?_
                              obtain ⟨S54, c56, h⟩ := wd_dx h
                              refine bk_kv tb_c_44_0 rfl rfl rfl rfl rfl (ci := 4) rfl rfl (ev_up (Nat.le_of_ble_eq_true rfl) (sn_Reader_refuse c56)) ?_
                              exact go_lv ls_nil (sn_Reader_refuseWithin_97 h)
                            · rw [if_neg g53] at h
                              by_cases g57 : (S.1 47 4) = (15 : Int32)
                              · rw [if_pos g57] at h
                                refine bk_sw tb_c_44_0 rfl (pc' := 80) (by rw [g57]; rfl) ?_
                                refine bk_b (q := (84, [(0, .ref 47)], [.ref 47, .int (6 : Int32), .ref 47])) tb_c_44_0 mx_44 3 rfl ?_
                                refine bk_gi tb_c_44_0 rfl rfl (ci := 4) (k := 3) rfl rfl rfl ?_
                                obtain ⟨S58, c60, h⟩ := wd_dx h
                                refine bk_kv tb_c_44_0 rfl rfl rfl rfl rfl (ci := 4) rfl rfl (ev_up (Nat.le_of_ble_eq_true rfl) (sn_Reader_faultAt c60)) ?_
                                refine bk_b (q := (97, [(0, .ref 47)], [])) tb_c_44_0 mx_44 1 rfl ?_
                                exact go_lv ls_nil (sn_Reader_refuseWithin_97 h)
                              · rw [if_neg g57] at h
                                refine bk_sw tb_c_44_0 rfl (pc' := 93) (sw_t (t := 93) (fun i h1 h2 => ?_) rfl) ?_
                                · have hi : i = 1 ∨ i = 2 ∨ i = 3 ∨ i = 4 ∨ i = 5 ∨ i = 6 ∨ i = 7 ∨ i = 8 ∨ i = 9 ∨ i = 10 ∨ i = 11 ∨ i = 12 ∨ i = 13 ∨ i = 14 ∨ i = 15 := by omega
                                  rcases hi with rfl | rfl | rfl | rfl | rfl | rfl | rfl | rfl | rfl | rfl | rfl | rfl | rfl | rfl | rfl
                                  · exact g1
                                  · exact g5
                                  · exact g9
                                  · exact g13
                                  · exact g17
                                  · exact g21
                                  · exact g25
                                  · exact g29
                                  · exact g33
                                  · exact g37
                                  · exact g41
                                  · exact g45
                                  · exact g49
                                  · exact g53
                                  · exact g57
                                · refine bk_b (q := (94, [(0, .ref 47)], [.ref 47])) tb_c_44_0 mx_44 1 rfl ?_
                                  obtain ⟨S61, c63, h⟩ := wd_dx h
                                  refine bk_kv tb_c_44_0 rfl rfl rfl rfl rfl (ci := 4) rfl rfl (ev_up (Nat.le_of_ble_eq_true rfl) (sn_Reader_refuse c63)) ?_
                                  exact go_lv ls_nil (sn_Reader_refuseWithin_97 h)
theorem mx_46 : mi_mx tb_P 46 = 4 := rfl
noncomputable def fn_Trees_open_66 (l3 : Int32) (s0 : Nat) (s1 : Int32) (s2 : Int32) (S : wd_S) : Option (Int32 × wd_S) :=
  (wd_d (fn_Row_put s0 s1 s2 S) fun S15 =>
  some (l3, S15))
set_option maxRecDepth 100000 in
theorem sn_Trees_open_66 {L : Nat} {xs : Nat → Int32} {l3 : Int32} {s0 : Nat} {s1 : Int32} {s2 : Int32} {S : wd_S} {x : Int32} {S' : wd_S} (hs0 : tp_t s0 = (0, 5)) (h : fn_Trees_open_66 l3 s0 s1 s2 S = some (x, S')) : go_r tb_P L xs 1 46 66 [(3, .int l3)] [.int s2, .int s1, .ref s0] (wd_k S) (.inl (some (.int x)), wd_k S') := by
  unfold fn_Trees_open_66 at h
  obtain ⟨S15, c17, h⟩ := wd_dx h
  refine bk_kv tb_c_46_0 rfl rfl rfl rfl rfl (ci := 5) hs0 rfl (ev_up (Nat.le_of_ble_eq_true rfl) (sn_Row_put hs0 c17)) ?_
  refine bk_b (q := (70, [(3, .int l3)], [.int l3])) tb_c_46_0 mx_46 1 rfl ?_
  cases h
  exact bk_t tb_c_46_1 rfl rfl
/-- Specialiser$Trees.open(II)I -/
noncomputable def fn_Trees_open (p0 : Nat) (p1 : Int32) (p2 : Int32) (S : wd_S) : Option (Int32 × wd_S) :=
  (wd_b (wd_i S p0 6 ((S.1 p0 6) + (1 : Int32))) fun S1 =>
  (wd_d (fn_Row_put (p0 + 1) (S.1 p0 6) p1 S1) fun S2 =>
  (wd_d (fn_Row_put (p0 + 3) (S.1 p0 6) p2 S2) fun S5 =>
  (wd_d (fn_Row_put (p0 + 5) (S.1 p0 6) (0 : Int32) S5) fun S8 =>
  (wd_d (fn_Row_put (p0 + 9) (S.1 p0 6) (1 : Int32) S8) fun S11 =>
  (if p1 = (3 : Int32) then
    fn_Trees_open_66 (S.1 p0 6) (p0 + 11) (S.1 p0 6) (1 : Int32) S11
  else
    fn_Trees_open_66 (S.1 p0 6) (p0 + 11) (S.1 p0 6) (0 : Int32) S11))))))
set_option maxRecDepth 100000 in
theorem sn_Trees_open {L : Nat} {xs : Nat → Int32} {p0 : Nat} {p1 : Int32} {p2 : Int32} {S : wd_S} {x : Int32} {S' : wd_S} (hp0 : tp_t p0 = (0, 8)) (h : fn_Trees_open p0 p1 p2 S = some (x, S')) : ev_r tb_P L xs (1 + 1) 46 [.ref p0, .int p1, .int p2] (wd_k S) (.inl (some (.int x)), wd_k S') := by
  unfold fn_Trees_open at h
  refine ev_of (Nat.le_of_ble_eq_true rfl) ?_
  show go_r tb_P L xs 1 46 0 [(0, .ref p0), (1, .int p1), (2, .int p2)] [] (wd_k S) (.inl (some (.int x)), wd_k S')
  refine bk_b (q := (1, [(0, .ref p0), (1, .int p1), (2, .int p2)], [.ref p0])) tb_c_46_0 mx_46 1 rfl ?_
  refine bk_gi tb_c_46_0 rfl rfl (ci := 8) (k := 6) rfl hp0 rfl ?_
  refine bk_b (q := (7, [(3, .int (S.1 p0 6)), (0, .ref p0), (1, .int p1), (2, .int p2)], [.ref p0, .ref p0])) tb_c_46_0 mx_46 3 rfl ?_
  refine bk_gi tb_c_46_0 rfl rfl (ci := 8) (k := 6) rfl hp0 rfl ?_
  refine bk_b (q := (12, [(3, .int (S.1 p0 6)), (0, .ref p0), (1, .int p1), (2, .int p2)], [.int ((S.1 p0 6) + (1 : Int32)), .ref p0])) tb_c_46_0 mx_46 2 rfl ?_
  obtain ⟨S1, eS1, h⟩ := wd_bx h
  refine bk_pi tb_c_46_0 rfl rfl (ci := 8) (k := 6) rfl hp0 rfl rfl ?_
  rw [eS1]
  refine bk_b (q := (16, [(3, .int (S.1 p0 6)), (0, .ref p0), (1, .int p1), (2, .int p2)], [.ref p0])) tb_c_46_0 mx_46 1 rfl ?_
  refine bk_go tb_c_46_0 rfl rfl (ci := 8) (k := 0) rfl hp0 rfl ?_
  refine bk_b (q := (21, [(3, .int (S.1 p0 6)), (0, .ref p0), (1, .int p1), (2, .int p2)], [.int p1, .int (S.1 p0 6), .ref (p0 + 1)])) tb_c_46_0 mx_46 2 rfl ?_
  obtain ⟨S2, c4, h⟩ := wd_dx h
  refine bk_kv tb_c_46_0 rfl rfl rfl rfl rfl (ci := 5) (tp_8_0 hp0) rfl (ev_up (Nat.le_of_ble_eq_true rfl) (sn_Row_put (tp_8_0 hp0) c4)) ?_
  refine bk_b (q := (25, [(3, .int (S.1 p0 6)), (0, .ref p0), (1, .int p1), (2, .int p2)], [.ref p0])) tb_c_46_0 mx_46 1 rfl ?_
  refine bk_go tb_c_46_0 rfl rfl (ci := 8) (k := 1) rfl hp0 rfl ?_
  refine bk_b (q := (30, [(3, .int (S.1 p0 6)), (0, .ref p0), (1, .int p1), (2, .int p2)], [.int p2, .int (S.1 p0 6), .ref (p0 + 3)])) tb_c_46_0 mx_46 2 rfl ?_
  obtain ⟨S5, c7, h⟩ := wd_dx h
  refine bk_kv tb_c_46_0 rfl rfl rfl rfl rfl (ci := 5) (tp_8_1 hp0) rfl (ev_up (Nat.le_of_ble_eq_true rfl) (sn_Row_put (tp_8_1 hp0) c7)) ?_
  refine bk_b (q := (34, [(3, .int (S.1 p0 6)), (0, .ref p0), (1, .int p1), (2, .int p2)], [.ref p0])) tb_c_46_0 mx_46 1 rfl ?_
  refine bk_go tb_c_46_0 rfl rfl (ci := 8) (k := 2) rfl hp0 rfl ?_
  refine bk_b (q := (39, [(3, .int (S.1 p0 6)), (0, .ref p0), (1, .int p1), (2, .int p2)], [.int (0 : Int32), .int (S.1 p0 6), .ref (p0 + 5)])) tb_c_46_0 mx_46 2 rfl ?_
  obtain ⟨S8, c10, h⟩ := wd_dx h
  refine bk_kv tb_c_46_0 rfl rfl rfl rfl rfl (ci := 5) (tp_8_2 hp0) rfl (ev_up (Nat.le_of_ble_eq_true rfl) (sn_Row_put (tp_8_2 hp0) c10)) ?_
  refine bk_b (q := (43, [(3, .int (S.1 p0 6)), (0, .ref p0), (1, .int p1), (2, .int p2)], [.ref p0])) tb_c_46_0 mx_46 1 rfl ?_
  refine bk_go tb_c_46_0 rfl rfl (ci := 8) (k := 4) rfl hp0 rfl ?_
  refine bk_b (q := (48, [(3, .int (S.1 p0 6)), (0, .ref p0), (1, .int p1), (2, .int p2)], [.int (1 : Int32), .int (S.1 p0 6), .ref (p0 + 9)])) tb_c_46_0 mx_46 2 rfl ?_
  obtain ⟨S11, c13, h⟩ := wd_dx h
  refine bk_kv tb_c_46_0 rfl rfl rfl rfl rfl (ci := 5) (tp_8_4 hp0) rfl (ev_up (Nat.le_of_ble_eq_true rfl) (sn_Row_put (tp_8_4 hp0) c13)) ?_
  refine bk_b (q := (52, [(3, .int (S.1 p0 6)), (0, .ref p0), (1, .int p1), (2, .int p2)], [.ref p0])) tb_c_46_0 mx_46 1 rfl ?_
  refine bk_go tb_c_46_0 rfl rfl (ci := 8) (k := 5) rfl hp0 rfl ?_
  refine bk_b (q := (58, [(3, .int (S.1 p0 6)), (0, .ref p0), (1, .int p1), (2, .int p2)], [.int (3 : Int32), .int p1, .int (S.1 p0 6), .ref (p0 + 11)])) tb_c_46_0 mx_46 3 rfl ?_
  by_cases g14 : p1 = (3 : Int32)
  · rw [if_pos g14] at h
    refine bk_jf tb_c_46_0 rfl (pc' := 61) rfl (t := 65) rfl (cm_ne_f g14) ?_
    refine bk_b (q := (66, [(3, .int (S.1 p0 6)), (0, .ref p0), (1, .int p1), (2, .int p2)], [.int (1 : Int32), .int (S.1 p0 6), .ref (p0 + 11)])) tb_c_46_0 mx_46 2 rfl ?_
    exact go_lv (ls_sc rfl rfl ls_nil) (sn_Trees_open_66 (tp_8_5 hp0) h)
  · rw [if_neg g14] at h
    refine bk_jt tb_c_46_0 rfl (pc' := 65) rfl (cm_ne_t g14) ?_
    refine bk_b (q := (66, [(3, .int (S.1 p0 6)), (0, .ref p0), (1, .int p1), (2, .int p2)], [.int (0 : Int32), .int (S.1 p0 6), .ref (p0 + 11)])) tb_c_46_0 mx_46 1 rfl ?_
    exact go_lv (ls_sc rfl rfl ls_nil) (sn_Trees_open_66 (tp_8_5 hp0) h)
theorem mx_47 : mi_mx tb_P 47 = 4 := rfl
noncomputable def fn_Trees_append_27 (l0 : Nat) (l1 : Int32) (l2 : Int32) (l3 : Int32) (S : wd_S) : Option wd_S :=
  (wd_d (fn_Row_put (l0 + 5) l1 (l3 + (1 : Int32)) S) fun S5 =>
  (wd_c (fn_Row_at (l0 + 9) l1 S5) fun x9 S8 =>
  (wd_c (fn_Row_at (l0 + 9) l2 S8) fun x12 S11 =>
  (wd_d (fn_Row_put (l0 + 9) l1 (x9 + x12) S11) fun S14 =>
  (wd_c (fn_Row_at (l0 + 11) l1 S14) fun x18 S17 =>
  (wd_c (fn_Row_at (l0 + 11) l2 S17) fun x21 S20 =>
  (wd_d (fn_Row_put (l0 + 11) l1 (x18 + x21) S20) fun S23 =>
  some S23)))))))
set_option maxRecDepth 100000 in
theorem sn_Trees_append_27 {L : Nat} {xs : Nat → Int32} {l0 : Nat} {l1 : Int32} {l2 : Int32} {l3 : Int32} {S : wd_S} {S' : wd_S} (hl0 : tp_t l0 = (0, 8)) (h : fn_Trees_append_27 l0 l1 l2 l3 S = some S') : go_r tb_P L xs 1 47 27 [(0, .ref l0), (1, .int l1), (2, .int l2), (3, .int l3)] [] (wd_k S) (.inl none, wd_k S') := by
  unfold fn_Trees_append_27 at h
  refine bk_b (q := (28, [(0, .ref l0), (1, .int l1), (2, .int l2), (3, .int l3)], [.ref l0])) tb_c_47_0 mx_47 1 rfl ?_
  refine bk_go tb_c_47_0 rfl rfl (ci := 8) (k := 2) rfl hl0 rfl ?_
  refine bk_b (q := (35, [(0, .ref l0), (1, .int l1), (2, .int l2), (3, .int l3)], [.int (l3 + (1 : Int32)), .int l1, .ref (l0 + 5)])) tb_c_47_0 mx_47 4 rfl ?_
  obtain ⟨S5, c7, h⟩ := wd_dx h
  refine bk_kv tb_c_47_0 rfl rfl rfl rfl rfl (ci := 5) (tp_8_2 hl0) rfl (ev_up (Nat.le_of_ble_eq_true rfl) (sn_Row_put (tp_8_2 hl0) c7)) ?_
  refine bk_b (q := (39, [(0, .ref l0), (1, .int l1), (2, .int l2), (3, .int l3)], [.ref l0])) tb_c_47_0 mx_47 1 rfl ?_
  refine bk_go tb_c_47_0 rfl rfl (ci := 8) (k := 4) rfl hl0 rfl ?_
  refine bk_b (q := (44, [(0, .ref l0), (1, .int l1), (2, .int l2), (3, .int l3)], [.ref l0, .int l1, .ref (l0 + 9)])) tb_c_47_0 mx_47 2 rfl ?_
  refine bk_go tb_c_47_0 rfl rfl (ci := 8) (k := 4) rfl hl0 rfl ?_
  refine bk_b (q := (48, [(0, .ref l0), (1, .int l1), (2, .int l2), (3, .int l3)], [.int l1, .ref (l0 + 9), .int l1, .ref (l0 + 9)])) tb_c_47_0 mx_47 1 rfl ?_
  obtain ⟨x9, S8, c10, h⟩ := wd_cx h
  refine bk_kv tb_c_47_0 rfl rfl rfl rfl rfl (ci := 5) (tp_8_4 hl0) rfl (ev_up (Nat.le_of_ble_eq_true rfl) (sn_Row_at (tp_8_4 hl0) c10)) ?_
  refine bk_b (q := (52, [(0, .ref l0), (1, .int l1), (2, .int l2), (3, .int l3)], [.ref l0, .int x9, .int l1, .ref (l0 + 9)])) tb_c_47_0 mx_47 1 rfl ?_
  refine bk_go tb_c_47_0 rfl rfl (ci := 8) (k := 4) rfl hl0 rfl ?_
  refine bk_b (q := (56, [(0, .ref l0), (1, .int l1), (2, .int l2), (3, .int l3)], [.int l2, .ref (l0 + 9), .int x9, .int l1, .ref (l0 + 9)])) tb_c_47_0 mx_47 1 rfl ?_
  obtain ⟨x12, S11, c13, h⟩ := wd_cx h
  refine bk_kv tb_c_47_0 rfl rfl rfl rfl rfl (ci := 5) (tp_8_4 hl0) rfl (ev_up (Nat.le_of_ble_eq_true rfl) (sn_Row_at (tp_8_4 hl0) c13)) ?_
  refine bk_b (q := (60, [(0, .ref l0), (1, .int l1), (2, .int l2), (3, .int l3)], [.int (x9 + x12), .int l1, .ref (l0 + 9)])) tb_c_47_0 mx_47 1 rfl ?_
  obtain ⟨S14, c16, h⟩ := wd_dx h
  refine bk_kv tb_c_47_0 rfl rfl rfl rfl rfl (ci := 5) (tp_8_4 hl0) rfl (ev_up (Nat.le_of_ble_eq_true rfl) (sn_Row_put (tp_8_4 hl0) c16)) ?_
  refine bk_b (q := (64, [(0, .ref l0), (1, .int l1), (2, .int l2), (3, .int l3)], [.ref l0])) tb_c_47_0 mx_47 1 rfl ?_
  refine bk_go tb_c_47_0 rfl rfl (ci := 8) (k := 5) rfl hl0 rfl ?_
  refine bk_b (q := (68, [(0, .ref l0), (1, .int l1), (2, .int l2), (3, .int l3)], [.int l1, .ref (l0 + 11)])) tb_c_47_0 mx_47 1 rfl ?_
  refine bk_b (q := (69, [(0, .ref l0), (1, .int l1), (2, .int l2), (3, .int l3)], [.ref l0, .int l1, .ref (l0 + 11)])) tb_c_47_1 mx_47 1 rfl ?_
  refine bk_go tb_c_47_1 rfl rfl (ci := 8) (k := 5) rfl hl0 rfl ?_
  refine bk_b (q := (73, [(0, .ref l0), (1, .int l1), (2, .int l2), (3, .int l3)], [.int l1, .ref (l0 + 11), .int l1, .ref (l0 + 11)])) tb_c_47_1 mx_47 1 rfl ?_
  obtain ⟨x18, S17, c19, h⟩ := wd_cx h
  refine bk_kv tb_c_47_1 rfl rfl rfl rfl rfl (ci := 5) (tp_8_5 hl0) rfl (ev_up (Nat.le_of_ble_eq_true rfl) (sn_Row_at (tp_8_5 hl0) c19)) ?_
  refine bk_b (q := (77, [(0, .ref l0), (1, .int l1), (2, .int l2), (3, .int l3)], [.ref l0, .int x18, .int l1, .ref (l0 + 11)])) tb_c_47_1 mx_47 1 rfl ?_
  refine bk_go tb_c_47_1 rfl rfl (ci := 8) (k := 5) rfl hl0 rfl ?_
  refine bk_b (q := (81, [(0, .ref l0), (1, .int l1), (2, .int l2), (3, .int l3)], [.int l2, .ref (l0 + 11), .int x18, .int l1, .ref (l0 + 11)])) tb_c_47_1 mx_47 1 rfl ?_
  obtain ⟨x21, S20, c22, h⟩ := wd_cx h
  refine bk_kv tb_c_47_1 rfl rfl rfl rfl rfl (ci := 5) (tp_8_5 hl0) rfl (ev_up (Nat.le_of_ble_eq_true rfl) (sn_Row_at (tp_8_5 hl0) c22)) ?_
  refine bk_b (q := (85, [(0, .ref l0), (1, .int l1), (2, .int l2), (3, .int l3)], [.int (x18 + x21), .int l1, .ref (l0 + 11)])) tb_c_47_1 mx_47 1 rfl ?_
  obtain ⟨S23, c25, h⟩ := wd_dx h
  refine bk_kv tb_c_47_1 rfl rfl rfl rfl rfl (ci := 5) (tp_8_5 hl0) rfl (ev_up (Nat.le_of_ble_eq_true rfl) (sn_Row_put (tp_8_5 hl0) c25)) ?_
  cases h
  exact bk_t tb_c_47_1 rfl rfl
/-- Specialiser$Trees.append(II)V -/
noncomputable def fn_Trees_append (p0 : Nat) (p1 : Int32) (p2 : Int32) (S : wd_S) : Option wd_S :=
  (wd_c (fn_Row_at (p0 + 5) p1 S) fun x2 S1 =>
  (if x2 < (4 : Int32) then
    (wd_d (fn_Row_put (p0 + 7) ((p1 * (4 : Int32)) + x2) p2 S1) fun S26 =>
    fn_Trees_append_27 p0 p1 p2 x2 S26)
  else
    fn_Trees_append_27 p0 p1 p2 x2 S1))
set_option maxRecDepth 100000 in
theorem sn_Trees_append {L : Nat} {xs : Nat → Int32} {p0 : Nat} {p1 : Int32} {p2 : Int32} {S : wd_S} {S' : wd_S} (hp0 : tp_t p0 = (0, 8)) (h : fn_Trees_append p0 p1 p2 S = some S') : ev_r tb_P L xs (1 + 1) 47 [.ref p0, .int p1, .int p2] (wd_k S) (.inl none, wd_k S') := by
  unfold fn_Trees_append at h
  refine ev_of (Nat.le_of_ble_eq_true rfl) ?_
  show go_r tb_P L xs 1 47 0 [(0, .ref p0), (1, .int p1), (2, .int p2)] [] (wd_k S) (.inl none, wd_k S')
  refine bk_b (q := (1, [(0, .ref p0), (1, .int p1), (2, .int p2)], [.ref p0])) tb_c_47_0 mx_47 1 rfl ?_
  refine bk_go tb_c_47_0 rfl rfl (ci := 8) (k := 2) rfl hp0 rfl ?_
  refine bk_b (q := (5, [(0, .ref p0), (1, .int p1), (2, .int p2)], [.int p1, .ref (p0 + 5)])) tb_c_47_0 mx_47 1 rfl ?_
  obtain ⟨x2, S1, c3, h⟩ := wd_cx h
  refine bk_kv tb_c_47_0 rfl rfl rfl rfl rfl (ci := 5) (tp_8_2 hp0) rfl (ev_up (Nat.le_of_ble_eq_true rfl) (sn_Row_at (tp_8_2 hp0) c3)) ?_
  refine bk_b (q := (11, [(3, .int x2), (0, .ref p0), (1, .int p1), (2, .int p2)], [.int (4 : Int32), .int x2])) tb_c_47_0 mx_47 3 rfl ?_
  by_cases g4 : x2 < (4 : Int32)
  · rw [if_pos g4] at h
    refine bk_jf tb_c_47_0 rfl (pc' := 14) rfl (t := 27) rfl (cm_ge_f g4) ?_
    refine bk_b (q := (15, [(3, .int x2), (0, .ref p0), (1, .int p1), (2, .int p2)], [.ref p0])) tb_c_47_0 mx_47 1 rfl ?_
    refine bk_go tb_c_47_0 rfl rfl (ci := 8) (k := 3) rfl hp0 rfl ?_
    refine bk_b (q := (24, [(3, .int x2), (0, .ref p0), (1, .int p1), (2, .int p2)], [.int p2, .int ((p1 * (4 : Int32)) + x2), .ref (p0 + 7)])) tb_c_47_0 mx_47 6 rfl ?_
    obtain ⟨S26, c28, h⟩ := wd_dx h
    refine bk_kv tb_c_47_0 rfl rfl rfl rfl rfl (ci := 5) (tp_8_3 hp0) rfl (ev_up (Nat.le_of_ble_eq_true rfl) (sn_Row_put (tp_8_3 hp0) c28)) ?_
    exact go_lv (ls_sc rfl rfl (ls_sc rfl rfl (ls_sc rfl rfl (ls_sc rfl rfl ls_nil)))) (sn_Trees_append_27 hp0 h)
  · rw [if_neg g4] at h
    refine bk_jt tb_c_47_0 rfl (pc' := 27) rfl (cm_ge_t g4) ?_
    exact go_lv (ls_sc rfl rfl (ls_sc rfl rfl (ls_sc rfl rfl (ls_sc rfl rfl ls_nil)))) (sn_Trees_append_27 hp0 h)
theorem mx_45 : mi_mx tb_P 45 = 6 := rfl
noncomputable def fn_Reader_takeLet_21 (slf : Nat → Int32 → Int32 → wd_S → Option (Int32 × wd_S)) (l1 : Int32) (s1 : Int32) (s2 : Int32) (S : wd_S) : Option (Int32 × wd_S) :=
  (wd_c (fn_Reader_takeNewName s1 s2 S) fun x6 S5 =>
  (wd_b (wd_i S5 47 8 ((S5.1 47 8) + (1 : Int32))) fun S8 =>
  (wd_d (fn_Reader_takeKind (14 : Int32) S8) fun S9 =>
  (if tp_t (S9.2.2.1 47 2) = (0, 8) then
    (wd_c (fn_Trees_open (S9.2.2.1 47 2) (3 : Int32) (S5.1 47 8) S9) fun x14 S13 =>
    (if tp_t (S13.2.2.1 47 2) = (0, 8) then
      (wd_c (slf 43 (l1 + (1 : Int32)) 0 S13) fun x18 S17 =>
      (wd_d (fn_Trees_append (S13.2.2.1 47 2) x14 x18 S17) fun S20 =>
      (wd_d (fn_Reader_takeKind (13 : Int32) S20) fun S23 =>
      (wd_d (fn_Reader_enter x6 (S5.1 47 8) S23) fun S26 =>
      (if tp_t (S26.2.2.1 47 2) = (0, 8) then
        (wd_c (slf 43 (l1 + (1 : Int32)) 0 S26) fun x31 S30 =>
        (wd_d (fn_Trees_append (S26.2.2.1 47 2) x14 x31 S30) fun S33 =>
        (wd_b (wd_i S33 47 11 ((S33.1 47 11) - (1 : Int32))) fun S36 =>
        some (x14, S36))))
      else none)))))
    else none))
  else none))))
set_option maxRecDepth 100000 in
theorem sn_Reader_takeLet_21 {L : Nat} {xs : Nat → Int32} {D : Nat} {slf : Nat → Int32 → Int32 → wd_S → Option (Int32 × wd_S)} (hD : 4 ≤ D) (hs43 : ∀ {a b : Int32} {S : wd_S} {x : Int32} {S' : wd_S}, slf 43 a b S = some (x, S') → ev_r tb_P L xs D 43 [.ref 47, .int a] (wd_k S) (.inl (some (.int x)), wd_k S')) (hs45 : ∀ {a b : Int32} {S : wd_S} {x : Int32} {S' : wd_S}, slf 45 a b S = some (x, S') → ev_r tb_P L xs D 45 [.ref 47, .int a] (wd_k S) (.inl (some (.int x)), wd_k S')) (hs48 : ∀ {a b : Int32} {S : wd_S} {x : Int32} {S' : wd_S}, slf 48 a b S = some (x, S') → ev_r tb_P L xs D 48 [.ref 47, .int a] (wd_k S) (.inl (some (.int x)), wd_k S')) (hs49 : ∀ {a b : Int32} {S : wd_S} {x : Int32} {S' : wd_S}, slf 49 a b S = some (x, S') → ev_r tb_P L xs D 49 [.ref 47, .int a] (wd_k S) (.inl (some (.int x)), wd_k S')) (hs50 : ∀ {a b : Int32} {S : wd_S} {x : Int32} {S' : wd_S}, slf 50 a b S = some (x, S') → ev_r tb_P L xs D 50 [.ref 47, .int a] (wd_k S) (.inl (some (.int x)), wd_k S')) (hs51 : ∀ {a b : Int32} {S : wd_S} {x : Int32} {S' : wd_S}, slf 51 a b S = some (x, S') → ev_r tb_P L xs D 51 [.ref 47, .int a] (wd_k S) (.inl (some (.int x)), wd_k S')) (hs52 : ∀ {a b : Int32} {S : wd_S} {x : Int32} {S' : wd_S}, slf 52 a b S = some (x, S') → ev_r tb_P L xs D 52 [.ref 47, .int a] (wd_k S) (.inl (some (.int x)), wd_k S')) (hs54 : ∀ {a b : Int32} {S : wd_S} {x : Int32} {S' : wd_S}, slf 54 a b S = some (x, S') → ev_r tb_P L xs D 54 [.ref 47, .int a, .int b] (wd_k S) (.inl (some (.int x)), wd_k S')) {l1 : Int32} {s1 : Int32} {s2 : Int32} {S : wd_S} {x : Int32} {S' : wd_S} (h : fn_Reader_takeLet_21 slf l1 s1 s2 S = some (x, S')) : go_r tb_P L xs D 45 21 [(0, .ref 47), (1, .int l1)] [.int s2, .int s1, .ref 47] (wd_k S) (.inl (some (.int x)), wd_k S') := by
  unfold fn_Reader_takeLet_21 at h
  obtain ⟨x6, S5, c7, h⟩ := wd_cx h
  refine bk_kv tb_c_45_0 rfl rfl rfl rfl rfl (ci := 4) rfl rfl (ev_up (Nat.le_trans (Nat.le_of_ble_eq_true rfl) hD) (sn_Reader_takeNewName c7)) ?_
  refine bk_b (q := (26, [(2, .long x6), (0, .ref 47), (1, .int l1)], [.ref 47])) tb_c_45_0 mx_45 2 rfl ?_
  refine bk_gi tb_c_45_0 rfl rfl (ci := 4) (k := 8) rfl rfl rfl ?_
  refine bk_b (q := (33, [(4, .int (S5.1 47 8)), (2, .long x6), (0, .ref 47), (1, .int l1)], [.ref 47, .ref 47])) tb_c_45_0 mx_45 3 rfl ?_
  refine bk_gi tb_c_45_0 rfl rfl (ci := 4) (k := 8) rfl rfl rfl ?_
  refine bk_b (q := (38, [(4, .int (S5.1 47 8)), (2, .long x6), (0, .ref 47), (1, .int l1)], [.int ((S5.1 47 8) + (1 : Int32)), .ref 47])) tb_c_45_0 mx_45 2 rfl ?_
  obtain ⟨S8, eS8, h⟩ := wd_bx h
  refine bk_pi tb_c_45_0 rfl rfl (ci := 4) (k := 8) rfl rfl rfl rfl ?_
  rw [eS8]
  refine bk_b (q := (44, [(4, .int (S5.1 47 8)), (2, .long x6), (0, .ref 47), (1, .int l1)], [.int (14 : Int32), .ref 47])) tb_c_45_0 mx_45 2 rfl ?_
  obtain ⟨S9, c11, h⟩ := wd_dx h
  refine bk_kv tb_c_45_0 rfl rfl rfl rfl rfl (ci := 4) rfl rfl (ev_up (Nat.le_trans (Nat.le_of_ble_eq_true rfl) hD) (sn_Reader_takeKind c11)) ?_
  refine bk_b (q := (48, [(4, .int (S5.1 47 8)), (2, .long x6), (0, .ref 47), (1, .int l1)], [.ref 47])) tb_c_45_0 mx_45 1 rfl ?_
  refine bk_gm tb_c_45_0 rfl rfl (ci := 4) (k := 2) rfl rfl rfl ?_
  by_cases g12 : tp_t (S9.2.2.1 47 2) = (0, 8)
  · rw [if_pos g12] at h
    refine bk_b (q := (54, [(4, .int (S5.1 47 8)), (2, .long x6), (0, .ref 47), (1, .int l1)], [.int (S5.1 47 8), .int (3 : Int32), .ref (S9.2.2.1 47 2)])) tb_c_45_0 mx_45 2 rfl ?_
    obtain ⟨x14, S13, c15, h⟩ := wd_cx h
    refine bk_kv tb_c_45_0 rfl rfl rfl rfl rfl (ci := 8) g12 rfl (ev_up (Nat.le_trans (Nat.le_of_ble_eq_true rfl) hD) (sn_Trees_open g12 c15)) ?_
    refine bk_b (q := (60, [(5, .int x14), (4, .int (S5.1 47 8)), (2, .long x6), (0, .ref 47), (1, .int l1)], [.ref 47])) tb_c_45_0 mx_45 2 rfl ?_
    refine bk_gm tb_c_45_0 rfl rfl (ci := 4) (k := 2) rfl rfl rfl ?_
    by_cases g16 : tp_t (S13.2.2.1 47 2) = (0, 8)
    · rw [if_pos g16] at h
      refine bk_b (q := (69, [(5, .int x14), (4, .int (S5.1 47 8)), (2, .long x6), (0, .ref 47), (1, .int l1)], [.int (l1 + (1 : Int32)), .ref 47, .int x14, .ref (S13.2.2.1 47 2)])) tb_c_45_0 mx_45 5 rfl ?_
      obtain ⟨x18, S17, c19, h⟩ := wd_cx h
      refine bk_kv tb_c_45_0 rfl rfl rfl rfl rfl (ci := 4) rfl rfl (hs43 (b := 0) c19) ?_
      obtain ⟨S20, c22, h⟩ := wd_dx h
      refine bk_kv tb_c_45_1 rfl rfl rfl rfl rfl (ci := 8) g16 rfl (ev_up (Nat.le_trans (Nat.le_of_ble_eq_true rfl) hD) (sn_Trees_append g16 c22)) ?_
      refine bk_b (q := (78, [(5, .int x14), (4, .int (S5.1 47 8)), (2, .long x6), (0, .ref 47), (1, .int l1)], [.int (13 : Int32), .ref 47])) tb_c_45_1 mx_45 2 rfl ?_
      obtain ⟨S23, c25, h⟩ := wd_dx h
      refine bk_kv tb_c_45_1 rfl rfl rfl rfl rfl (ci := 4) rfl rfl (ev_up (Nat.le_trans (Nat.le_of_ble_eq_true rfl) hD) (sn_Reader_takeKind c25)) ?_
      refine bk_b (q := (85, [(5, .int x14), (4, .int (S5.1 47 8)), (2, .long x6), (0, .ref 47), (1, .int l1)], [.int (S5.1 47 8), .long x6, .ref 47])) tb_c_45_1 mx_45 3 rfl ?_
      obtain ⟨S26, c28, h⟩ := wd_dx h
      refine bk_kv tb_c_45_1 rfl rfl rfl rfl rfl (ci := 4) rfl rfl (ev_up (Nat.le_trans (Nat.le_of_ble_eq_true rfl) hD) (sn_Reader_enter c28)) ?_
      refine bk_b (q := (89, [(5, .int x14), (4, .int (S5.1 47 8)), (2, .long x6), (0, .ref 47), (1, .int l1)], [.ref 47])) tb_c_45_1 mx_45 1 rfl ?_
      refine bk_gm tb_c_45_1 rfl rfl (ci := 4) (k := 2) rfl rfl rfl ?_
      by_cases g29 : tp_t (S26.2.2.1 47 2) = (0, 8)
      · rw [if_pos g29] at h
        refine bk_b (q := (98, [(5, .int x14), (4, .int (S5.1 47 8)), (2, .long x6), (0, .ref 47), (1, .int l1)], [.int (l1 + (1 : Int32)), .ref 47, .int x14, .ref (S26.2.2.1 47 2)])) tb_c_45_1 mx_45 5 rfl ?_
        obtain ⟨x31, S30, c32, h⟩ := wd_cx h
        refine bk_kv tb_c_45_1 rfl rfl rfl rfl rfl (ci := 4) rfl rfl (hs43 (b := 0) c32) ?_
        obtain ⟨S33, c35, h⟩ := wd_dx h
        refine bk_kv tb_c_45_1 rfl rfl rfl rfl rfl (ci := 8) g29 rfl (ev_up (Nat.le_trans (Nat.le_of_ble_eq_true rfl) hD) (sn_Trees_append g29 c35)) ?_
        refine bk_b (q := (106, [(5, .int x14), (4, .int (S5.1 47 8)), (2, .long x6), (0, .ref 47), (1, .int l1)], [.ref 47, .ref 47])) tb_c_45_1 mx_45 2 rfl ?_
        refine bk_gi tb_c_45_1 rfl rfl (ci := 4) (k := 11) rfl rfl rfl ?_
        refine bk_b (q := (111, [(5, .int x14), (4, .int (S5.1 47 8)), (2, .long x6), (0, .ref 47), (1, .int l1)], [.int ((S33.1 47 11) - (1 : Int32)), .ref 47])) tb_c_45_1 mx_45 2 rfl ?_
        obtain ⟨S36, eS36, h⟩ := wd_bx h
        refine bk_pi tb_c_45_1 rfl rfl (ci := 4) (k := 11) rfl rfl rfl rfl ?_
        rw [eS36]
        refine bk_b (q := (116, [(5, .int x14), (4, .int (S5.1 47 8)), (2, .long x6), (0, .ref 47), (1, .int l1)], [.int x14])) tb_c_45_1 mx_45 1 rfl ?_
        cases h
        exact bk_t tb_c_45_1 rfl rfl
      · rw [if_neg g29] at h; cases h
    · rw [if_neg g16] at h; cases h
  · rw [if_neg g12] at h; cases h
/-- Specialiser$Reader.takeLet(I)I -/
noncomputable def fn_Reader_takeLet (slf : Nat → Int32 → Int32 → wd_S → Option (Int32 × wd_S)) (p1 : Int32) (S : wd_S) : Option (Int32 × wd_S) :=
  (wd_d (fn_Reader_takeKind (3 : Int32) S) fun S1 =>
  (if (S1.1 47 8) < (16 : Int32) then
    fn_Reader_takeLet_21 slf p1 (0 : Int32) (0 : Int32) S1
  else
    fn_Reader_takeLet_21 slf p1 (0 : Int32) (1 : Int32) S1))
set_option maxRecDepth 100000 in
theorem sn_Reader_takeLet {L : Nat} {xs : Nat → Int32} {D : Nat} {slf : Nat → Int32 → Int32 → wd_S → Option (Int32 × wd_S)} (hD : 4 ≤ D) (hs43 : ∀ {a b : Int32} {S : wd_S} {x : Int32} {S' : wd_S}, slf 43 a b S = some (x, S') → ev_r tb_P L xs D 43 [.ref 47, .int a] (wd_k S) (.inl (some (.int x)), wd_k S')) (hs45 : ∀ {a b : Int32} {S : wd_S} {x : Int32} {S' : wd_S}, slf 45 a b S = some (x, S') → ev_r tb_P L xs D 45 [.ref 47, .int a] (wd_k S) (.inl (some (.int x)), wd_k S')) (hs48 : ∀ {a b : Int32} {S : wd_S} {x : Int32} {S' : wd_S}, slf 48 a b S = some (x, S') → ev_r tb_P L xs D 48 [.ref 47, .int a] (wd_k S) (.inl (some (.int x)), wd_k S')) (hs49 : ∀ {a b : Int32} {S : wd_S} {x : Int32} {S' : wd_S}, slf 49 a b S = some (x, S') → ev_r tb_P L xs D 49 [.ref 47, .int a] (wd_k S) (.inl (some (.int x)), wd_k S')) (hs50 : ∀ {a b : Int32} {S : wd_S} {x : Int32} {S' : wd_S}, slf 50 a b S = some (x, S') → ev_r tb_P L xs D 50 [.ref 47, .int a] (wd_k S) (.inl (some (.int x)), wd_k S')) (hs51 : ∀ {a b : Int32} {S : wd_S} {x : Int32} {S' : wd_S}, slf 51 a b S = some (x, S') → ev_r tb_P L xs D 51 [.ref 47, .int a] (wd_k S) (.inl (some (.int x)), wd_k S')) (hs52 : ∀ {a b : Int32} {S : wd_S} {x : Int32} {S' : wd_S}, slf 52 a b S = some (x, S') → ev_r tb_P L xs D 52 [.ref 47, .int a] (wd_k S) (.inl (some (.int x)), wd_k S')) (hs54 : ∀ {a b : Int32} {S : wd_S} {x : Int32} {S' : wd_S}, slf 54 a b S = some (x, S') → ev_r tb_P L xs D 54 [.ref 47, .int a, .int b] (wd_k S) (.inl (some (.int x)), wd_k S')) {p1 : Int32} {S : wd_S} {x : Int32} {S' : wd_S} (h : fn_Reader_takeLet slf p1 S = some (x, S')) : ev_r tb_P L xs (D + 1) 45 [.ref 47, .int p1] (wd_k S) (.inl (some (.int x)), wd_k S') := by
  unfold fn_Reader_takeLet at h
  refine ev_of (Nat.le_of_ble_eq_true rfl) ?_
  show go_r tb_P L xs D 45 0 [(0, .ref 47), (1, .int p1)] [] (wd_k S) (.inl (some (.int x)), wd_k S')
  refine bk_b (q := (2, [(0, .ref 47), (1, .int p1)], [.int (3 : Int32), .ref 47])) tb_c_45_0 mx_45 2 rfl ?_
  obtain ⟨S1, c3, h⟩ := wd_dx h
  refine bk_kv tb_c_45_0 rfl rfl rfl rfl rfl (ci := 4) rfl rfl (ev_up (Nat.le_trans (Nat.le_of_ble_eq_true rfl) hD) (sn_Reader_takeKind c3)) ?_
  refine bk_b (q := (8, [(0, .ref 47), (1, .int p1)], [.ref 47, .int (0 : Int32), .ref 47])) tb_c_45_0 mx_45 3 rfl ?_
  refine bk_gi tb_c_45_0 rfl rfl (ci := 4) (k := 8) rfl rfl rfl ?_
  refine bk_b (q := (13, [(0, .ref 47), (1, .int p1)], [.int (16 : Int32), .int (S1.1 47 8), .int (0 : Int32), .ref 47])) tb_c_45_0 mx_45 1 rfl ?_
  by_cases g4 : (S1.1 47 8) < (16 : Int32)
  · rw [if_pos g4] at h
    refine bk_jt tb_c_45_0 rfl (pc' := 20) rfl (cm_lt_t g4) ?_
    refine bk_b (q := (21, [(0, .ref 47), (1, .int p1)], [.int (0 : Int32), .int (0 : Int32), .ref 47])) tb_c_45_0 mx_45 1 rfl ?_
    exact go_lv (ls_sc rfl rfl (ls_sc rfl rfl ls_nil)) (sn_Reader_takeLet_21 hD hs43 hs45 hs48 hs49 hs50 hs51 hs52 hs54 h)
  · rw [if_neg g4] at h
    refine bk_jf tb_c_45_0 rfl (pc' := 16) rfl (t := 20) rfl (cm_lt_f g4) ?_
    refine bk_b (q := (21, [(0, .ref 47), (1, .int p1)], [.int (1 : Int32), .int (0 : Int32), .ref 47])) tb_c_45_0 mx_45 2 rfl ?_
    exact go_lv (ls_sc rfl rfl (ls_sc rfl rfl ls_nil)) (sn_Reader_takeLet_21 hD hs43 hs45 hs48 hs49 hs50 hs51 hs52 hs54 h)
theorem mx_48 : mi_mx tb_P 48 = 3 := rfl
/-- Specialiser$Reader.takeIf(I)I -/
noncomputable def fn_Reader_takeIf (slf : Nat → Int32 → Int32 → wd_S → Option (Int32 × wd_S)) (p1 : Int32) (S : wd_S) : Option (Int32 × wd_S) :=
  (if tp_t (S.2.2.1 47 2) = (0, 8) then
    (wd_c (fn_Trees_open (S.2.2.1 47 2) (4 : Int32) (0 : Int32) S) fun x3 S2 =>
    (wd_d (fn_Reader_takeKind (4 : Int32) S2) fun S5 =>
    (if tp_t (S5.2.2.1 47 2) = (0, 8) then
      (wd_c (slf 43 (p1 + (1 : Int32)) 0 S5) fun x10 S9 =>
      (wd_d (fn_Trees_append (S5.2.2.1 47 2) x3 x10 S9) fun S12 =>
      (wd_d (fn_Reader_takeKind (11 : Int32) S12) fun S15 =>
      (if tp_t (S15.2.2.1 47 2) = (0, 8) then
        (wd_c (slf 43 (p1 + (1 : Int32)) 0 S15) fun x20 S19 =>
        (wd_d (fn_Trees_append (S15.2.2.1 47 2) x3 x20 S19) fun S22 =>
        (wd_d (fn_Reader_takeKind (12 : Int32) S22) fun S25 =>
        (if tp_t (S25.2.2.1 47 2) = (0, 8) then
          (wd_c (slf 43 (p1 + (1 : Int32)) 0 S25) fun x30 S29 =>
          (wd_d (fn_Trees_append (S25.2.2.1 47 2) x3 x30 S29) fun S32 =>
          some (x3, S32)))
        else none))))
      else none))))
    else none)))
  else none)
set_option maxRecDepth 100000 in
theorem sn_Reader_takeIf {L : Nat} {xs : Nat → Int32} {D : Nat} {slf : Nat → Int32 → Int32 → wd_S → Option (Int32 × wd_S)} (hD : 4 ≤ D) (hs43 : ∀ {a b : Int32} {S : wd_S} {x : Int32} {S' : wd_S}, slf 43 a b S = some (x, S') → ev_r tb_P L xs D 43 [.ref 47, .int a] (wd_k S) (.inl (some (.int x)), wd_k S')) (hs45 : ∀ {a b : Int32} {S : wd_S} {x : Int32} {S' : wd_S}, slf 45 a b S = some (x, S') → ev_r tb_P L xs D 45 [.ref 47, .int a] (wd_k S) (.inl (some (.int x)), wd_k S')) (hs48 : ∀ {a b : Int32} {S : wd_S} {x : Int32} {S' : wd_S}, slf 48 a b S = some (x, S') → ev_r tb_P L xs D 48 [.ref 47, .int a] (wd_k S) (.inl (some (.int x)), wd_k S')) (hs49 : ∀ {a b : Int32} {S : wd_S} {x : Int32} {S' : wd_S}, slf 49 a b S = some (x, S') → ev_r tb_P L xs D 49 [.ref 47, .int a] (wd_k S) (.inl (some (.int x)), wd_k S')) (hs50 : ∀ {a b : Int32} {S : wd_S} {x : Int32} {S' : wd_S}, slf 50 a b S = some (x, S') → ev_r tb_P L xs D 50 [.ref 47, .int a] (wd_k S) (.inl (some (.int x)), wd_k S')) (hs51 : ∀ {a b : Int32} {S : wd_S} {x : Int32} {S' : wd_S}, slf 51 a b S = some (x, S') → ev_r tb_P L xs D 51 [.ref 47, .int a] (wd_k S) (.inl (some (.int x)), wd_k S')) (hs52 : ∀ {a b : Int32} {S : wd_S} {x : Int32} {S' : wd_S}, slf 52 a b S = some (x, S') → ev_r tb_P L xs D 52 [.ref 47, .int a] (wd_k S) (.inl (some (.int x)), wd_k S')) (hs54 : ∀ {a b : Int32} {S : wd_S} {x : Int32} {S' : wd_S}, slf 54 a b S = some (x, S') → ev_r tb_P L xs D 54 [.ref 47, .int a, .int b] (wd_k S) (.inl (some (.int x)), wd_k S')) {p1 : Int32} {S : wd_S} {x : Int32} {S' : wd_S} (h : fn_Reader_takeIf slf p1 S = some (x, S')) : ev_r tb_P L xs (D + 1) 48 [.ref 47, .int p1] (wd_k S) (.inl (some (.int x)), wd_k S') := by
  unfold fn_Reader_takeIf at h
  refine ev_of (Nat.le_of_ble_eq_true rfl) ?_
  show go_r tb_P L xs D 48 0 [(0, .ref 47), (1, .int p1)] [] (wd_k S) (.inl (some (.int x)), wd_k S')
  refine bk_b (q := (1, [(0, .ref 47), (1, .int p1)], [.ref 47])) tb_c_48_0 mx_48 1 rfl ?_
  refine bk_gm tb_c_48_0 rfl rfl (ci := 4) (k := 2) rfl rfl rfl ?_
  by_cases g1 : tp_t (S.2.2.1 47 2) = (0, 8)
  · rw [if_pos g1] at h
    refine bk_b (q := (6, [(0, .ref 47), (1, .int p1)], [.int (0 : Int32), .int (4 : Int32), .ref (S.2.2.1 47 2)])) tb_c_48_0 mx_48 2 rfl ?_
    obtain ⟨x3, S2, c4, h⟩ := wd_cx h
    refine bk_kv tb_c_48_0 rfl rfl rfl rfl rfl (ci := 8) g1 rfl (ev_up (Nat.le_trans (Nat.le_of_ble_eq_true rfl) hD) (sn_Trees_open g1 c4)) ?_
    refine bk_b (q := (12, [(2, .int x3), (0, .ref 47), (1, .int p1)], [.int (4 : Int32), .ref 47])) tb_c_48_0 mx_48 3 rfl ?_
    obtain ⟨S5, c7, h⟩ := wd_dx h
    refine bk_kv tb_c_48_0 rfl rfl rfl rfl rfl (ci := 4) rfl rfl (ev_up (Nat.le_trans (Nat.le_of_ble_eq_true rfl) hD) (sn_Reader_takeKind c7)) ?_
    refine bk_b (q := (16, [(2, .int x3), (0, .ref 47), (1, .int p1)], [.ref 47])) tb_c_48_0 mx_48 1 rfl ?_
    refine bk_gm tb_c_48_0 rfl rfl (ci := 4) (k := 2) rfl rfl rfl ?_
    by_cases g8 : tp_t (S5.2.2.1 47 2) = (0, 8)
    · rw [if_pos g8] at h
      refine bk_b (q := (24, [(2, .int x3), (0, .ref 47), (1, .int p1)], [.int (p1 + (1 : Int32)), .ref 47, .int x3, .ref (S5.2.2.1 47 2)])) tb_c_48_0 mx_48 5 rfl ?_
      obtain ⟨x10, S9, c11, h⟩ := wd_cx h
      refine bk_kv tb_c_48_0 rfl rfl rfl rfl rfl (ci := 4) rfl rfl (hs43 (b := 0) c11) ?_
      obtain ⟨S12, c14, h⟩ := wd_dx h
      refine bk_kv tb_c_48_0 rfl rfl rfl rfl rfl (ci := 8) g8 rfl (ev_up (Nat.le_trans (Nat.le_of_ble_eq_true rfl) hD) (sn_Trees_append g8 c14)) ?_
      refine bk_b (q := (33, [(2, .int x3), (0, .ref 47), (1, .int p1)], [.int (11 : Int32), .ref 47])) tb_c_48_0 mx_48 2 rfl ?_
      obtain ⟨S15, c17, h⟩ := wd_dx h
      refine bk_kv tb_c_48_0 rfl rfl rfl rfl rfl (ci := 4) rfl rfl (ev_up (Nat.le_trans (Nat.le_of_ble_eq_true rfl) hD) (sn_Reader_takeKind c17)) ?_
      refine bk_b (q := (37, [(2, .int x3), (0, .ref 47), (1, .int p1)], [.ref 47])) tb_c_48_0 mx_48 1 rfl ?_
      refine bk_gm tb_c_48_0 rfl rfl (ci := 4) (k := 2) rfl rfl rfl ?_
      by_cases g18 : tp_t (S15.2.2.1 47 2) = (0, 8)
      · rw [if_pos g18] at h
        refine bk_b (q := (45, [(2, .int x3), (0, .ref 47), (1, .int p1)], [.int (p1 + (1 : Int32)), .ref 47, .int x3, .ref (S15.2.2.1 47 2)])) tb_c_48_0 mx_48 5 rfl ?_
        obtain ⟨x20, S19, c21, h⟩ := wd_cx h
        refine bk_kv tb_c_48_0 rfl rfl rfl rfl rfl (ci := 4) rfl rfl (hs43 (b := 0) c21) ?_
        obtain ⟨S22, c24, h⟩ := wd_dx h
        refine bk_kv tb_c_48_0 rfl rfl rfl rfl rfl (ci := 8) g18 rfl (ev_up (Nat.le_trans (Nat.le_of_ble_eq_true rfl) hD) (sn_Trees_append g18 c24)) ?_
        refine bk_b (q := (54, [(2, .int x3), (0, .ref 47), (1, .int p1)], [.int (12 : Int32), .ref 47])) tb_c_48_0 mx_48 2 rfl ?_
        obtain ⟨S25, c27, h⟩ := wd_dx h
        refine bk_kv tb_c_48_0 rfl rfl rfl rfl rfl (ci := 4) rfl rfl (ev_up (Nat.le_trans (Nat.le_of_ble_eq_true rfl) hD) (sn_Reader_takeKind c27)) ?_
        refine bk_b (q := (58, [(2, .int x3), (0, .ref 47), (1, .int p1)], [.ref 47])) tb_c_48_0 mx_48 1 rfl ?_
        refine bk_gm tb_c_48_0 rfl rfl (ci := 4) (k := 2) rfl rfl rfl ?_
        by_cases g28 : tp_t (S25.2.2.1 47 2) = (0, 8)
        · rw [if_pos g28] at h
          refine bk_b (q := (66, [(2, .int x3), (0, .ref 47), (1, .int p1)], [.int (p1 + (1 : Int32)), .ref 47, .int x3, .ref (S25.2.2.1 47 2)])) tb_c_48_0 mx_48 5 rfl ?_
          obtain ⟨x30, S29, c31, h⟩ := wd_cx h
          refine bk_kv tb_c_48_1 rfl rfl rfl rfl rfl (ci := 4) rfl rfl (hs43 (b := 0) c31) ?_
          obtain ⟨S32, c34, h⟩ := wd_dx h
          refine bk_kv tb_c_48_1 rfl rfl rfl rfl rfl (ci := 8) g28 rfl (ev_up (Nat.le_trans (Nat.le_of_ble_eq_true rfl) hD) (sn_Trees_append g28 c34)) ?_
          refine bk_b (q := (73, [(2, .int x3), (0, .ref 47), (1, .int p1)], [.int x3])) tb_c_48_1 mx_48 1 rfl ?_
          cases h
          exact bk_t tb_c_48_1 rfl rfl
        · rw [if_neg g28] at h; cases h
      · rw [if_neg g18] at h; cases h
    · rw [if_neg g8] at h; cases h
  · rw [if_neg g1] at h; cases h
theorem mx_53 : mi_mx tb_P 53 = 3 := rfl
/-- Specialiser$Reader.takeNumber(I)I -/
noncomputable def fn_Reader_takeNumber (p1 : Int32) (S : wd_S) : Option (Int32 × wd_S) :=
  (wd_c (fn_Tokens_value (S.1 47 3) S) fun x2 S1 =>
  (wd_d (fn_Reader_takeKind (1 : Int32) S1) fun S4 =>
  (if tp_t (S4.2.2.1 47 2) = (0, 8) then
    (wd_c (fn_Trees_open (S4.2.2.1 47 2) (1 : Int32) (p1 * ((x2).toInt32)) S4) fun x9 S8 =>
    some (x9, S8))
  else none)))
set_option maxRecDepth 100000 in
theorem sn_Reader_takeNumber {L : Nat} {xs : Nat → Int32} {p1 : Int32} {S : wd_S} {x : Int32} {S' : wd_S} (h : fn_Reader_takeNumber p1 S = some (x, S')) : ev_r tb_P L xs (3 + 1) 53 [.ref 47, .int p1] (wd_k S) (.inl (some (.int x)), wd_k S') := by
  unfold fn_Reader_takeNumber at h
  refine ev_of (Nat.le_of_ble_eq_true rfl) ?_
  show go_r tb_P L xs 3 53 0 [(0, .ref 47), (1, .int p1)] [] (wd_k S) (.inl (some (.int x)), wd_k S')
  refine bk_b (q := (1, [(0, .ref 47), (1, .int p1)], [.ref 47])) tb_c_53_0 mx_53 1 rfl ?_
  refine bk_gc tb_c_53_0 rfl rfl (ci := 4) (k := 0) rfl rfl rfl ?_
  refine bk_b (q := (5, [(0, .ref 47), (1, .int p1)], [.ref 47, .ref 4])) tb_c_53_0 mx_53 1 rfl ?_
  refine bk_gi tb_c_53_0 rfl rfl (ci := 4) (k := 3) rfl rfl rfl ?_
  obtain ⟨x2, S1, c3, h⟩ := wd_cx h
  refine bk_kv tb_c_53_0 rfl rfl rfl rfl rfl (ci := 7) rfl rfl (ev_up (Nat.le_of_ble_eq_true rfl) (sn_Tokens_value c3)) ?_
  refine bk_b (q := (15, [(2, .int ((x2).toInt32)), (0, .ref 47), (1, .int p1)], [.int (1 : Int32), .ref 47])) tb_c_53_0 mx_53 4 rfl ?_
  obtain ⟨S4, c6, h⟩ := wd_dx h
  refine bk_kv tb_c_53_0 rfl rfl rfl rfl rfl (ci := 4) rfl rfl (ev_up (Nat.le_of_ble_eq_true rfl) (sn_Reader_takeKind c6)) ?_
  refine bk_b (q := (19, [(2, .int ((x2).toInt32)), (0, .ref 47), (1, .int p1)], [.ref 47])) tb_c_53_0 mx_53 1 rfl ?_
  refine bk_gm tb_c_53_0 rfl rfl (ci := 4) (k := 2) rfl rfl rfl ?_
  by_cases g7 : tp_t (S4.2.2.1 47 2) = (0, 8)
  · rw [if_pos g7] at h
    refine bk_b (q := (26, [(2, .int ((x2).toInt32)), (0, .ref 47), (1, .int p1)], [.int (p1 * ((x2).toInt32)), .int (1 : Int32), .ref (S4.2.2.1 47 2)])) tb_c_53_0 mx_53 4 rfl ?_
    obtain ⟨x9, S8, c10, h⟩ := wd_cx h
    refine bk_kv tb_c_53_0 rfl rfl rfl rfl rfl (ci := 8) g7 rfl (ev_up (Nat.le_of_ble_eq_true rfl) (sn_Trees_open g7 c10)) ?_
    cases h
    exact bk_t tb_c_53_0 rfl rfl
  · rw [if_neg g7] at h; cases h
theorem mx_54 : mi_mx tb_P 54 = 5 := rfl
noncomputable def fn_Reader_takeCall_87 (slf : Nat → Int32 → Int32 → wd_S → Option (Int32 × wd_S)) (l3 : Int32) (S : wd_S) : Option (Int32 × wd_S) :=
  (wd_d (fn_Reader_takeKind (16 : Int32) S) fun S9 =>
  some (l3, S9))
set_option maxRecDepth 100000 in
theorem sn_Reader_takeCall_87 {L : Nat} {xs : Nat → Int32} {D : Nat} {slf : Nat → Int32 → Int32 → wd_S → Option (Int32 × wd_S)} (hD : 4 ≤ D) (hs43 : ∀ {a b : Int32} {S : wd_S} {x : Int32} {S' : wd_S}, slf 43 a b S = some (x, S') → ev_r tb_P L xs D 43 [.ref 47, .int a] (wd_k S) (.inl (some (.int x)), wd_k S')) (hs45 : ∀ {a b : Int32} {S : wd_S} {x : Int32} {S' : wd_S}, slf 45 a b S = some (x, S') → ev_r tb_P L xs D 45 [.ref 47, .int a] (wd_k S) (.inl (some (.int x)), wd_k S')) (hs48 : ∀ {a b : Int32} {S : wd_S} {x : Int32} {S' : wd_S}, slf 48 a b S = some (x, S') → ev_r tb_P L xs D 48 [.ref 47, .int a] (wd_k S) (.inl (some (.int x)), wd_k S')) (hs49 : ∀ {a b : Int32} {S : wd_S} {x : Int32} {S' : wd_S}, slf 49 a b S = some (x, S') → ev_r tb_P L xs D 49 [.ref 47, .int a] (wd_k S) (.inl (some (.int x)), wd_k S')) (hs50 : ∀ {a b : Int32} {S : wd_S} {x : Int32} {S' : wd_S}, slf 50 a b S = some (x, S') → ev_r tb_P L xs D 50 [.ref 47, .int a] (wd_k S) (.inl (some (.int x)), wd_k S')) (hs51 : ∀ {a b : Int32} {S : wd_S} {x : Int32} {S' : wd_S}, slf 51 a b S = some (x, S') → ev_r tb_P L xs D 51 [.ref 47, .int a] (wd_k S) (.inl (some (.int x)), wd_k S')) (hs52 : ∀ {a b : Int32} {S : wd_S} {x : Int32} {S' : wd_S}, slf 52 a b S = some (x, S') → ev_r tb_P L xs D 52 [.ref 47, .int a] (wd_k S) (.inl (some (.int x)), wd_k S')) (hs54 : ∀ {a b : Int32} {S : wd_S} {x : Int32} {S' : wd_S}, slf 54 a b S = some (x, S') → ev_r tb_P L xs D 54 [.ref 47, .int a, .int b] (wd_k S) (.inl (some (.int x)), wd_k S')) {l3 : Int32} {S : wd_S} {x : Int32} {S' : wd_S} (h : fn_Reader_takeCall_87 slf l3 S = some (x, S')) : go_r tb_P L xs D 54 87 [(0, .ref 47), (3, .int l3)] [] (wd_k S) (.inl (some (.int x)), wd_k S') := by
  unfold fn_Reader_takeCall_87 at h
  refine bk_b (q := (90, [(0, .ref 47), (3, .int l3)], [.int (16 : Int32), .ref 47])) tb_c_54_1 mx_54 2 rfl ?_
  obtain ⟨S9, c11, h⟩ := wd_dx h
  refine bk_kv tb_c_54_1 rfl rfl rfl rfl rfl (ci := 4) rfl rfl (ev_up (Nat.le_trans (Nat.le_of_ble_eq_true rfl) hD) (sn_Reader_takeKind c11)) ?_
  refine bk_b (q := (94, [(0, .ref 47), (3, .int l3)], [.int l3])) tb_c_54_1 mx_54 1 rfl ?_
  cases h
  exact bk_t tb_c_54_1 rfl rfl
noncomputable def fn_Reader_takeCall_43 (slf : Nat → Int32 → Int32 → wd_S → Option (Int32 × wd_S)) : Nat → Int32 → Int32 → Int32 → wd_S → Option (Int32 × wd_S)
  | 0, _, _, _, _ => none
  | n + 1, l2, l3, l4, S =>
    (if l4 < (1500 : Int32) then
      (if (S.1 47 4) = (17 : Int32) then
        (wd_d (fn_Reader_takeKind (17 : Int32) S) fun S21 =>
        (if tp_t (S21.2.2.1 47 2) = (0, 8) then
          (wd_c (slf 43 (l2 + (1 : Int32)) 0 S21) fun x26 S25 =>
          (wd_d (fn_Trees_append (S21.2.2.1 47 2) l3 x26 S25) fun S28 =>
          fn_Reader_takeCall_43 slf n l2 l3 (l4 + (1 : Int32)) S28))
        else none))
      else
        fn_Reader_takeCall_87 slf l3 S)
    else
      fn_Reader_takeCall_87 slf l3 S)
set_option maxRecDepth 100000 in
theorem sn_Reader_takeCall_43 {L : Nat} {xs : Nat → Int32} {D : Nat} {slf : Nat → Int32 → Int32 → wd_S → Option (Int32 × wd_S)} (hD : 4 ≤ D) (hs43 : ∀ {a b : Int32} {S : wd_S} {x : Int32} {S' : wd_S}, slf 43 a b S = some (x, S') → ev_r tb_P L xs D 43 [.ref 47, .int a] (wd_k S) (.inl (some (.int x)), wd_k S')) (hs45 : ∀ {a b : Int32} {S : wd_S} {x : Int32} {S' : wd_S}, slf 45 a b S = some (x, S') → ev_r tb_P L xs D 45 [.ref 47, .int a] (wd_k S) (.inl (some (.int x)), wd_k S')) (hs48 : ∀ {a b : Int32} {S : wd_S} {x : Int32} {S' : wd_S}, slf 48 a b S = some (x, S') → ev_r tb_P L xs D 48 [.ref 47, .int a] (wd_k S) (.inl (some (.int x)), wd_k S')) (hs49 : ∀ {a b : Int32} {S : wd_S} {x : Int32} {S' : wd_S}, slf 49 a b S = some (x, S') → ev_r tb_P L xs D 49 [.ref 47, .int a] (wd_k S) (.inl (some (.int x)), wd_k S')) (hs50 : ∀ {a b : Int32} {S : wd_S} {x : Int32} {S' : wd_S}, slf 50 a b S = some (x, S') → ev_r tb_P L xs D 50 [.ref 47, .int a] (wd_k S) (.inl (some (.int x)), wd_k S')) (hs51 : ∀ {a b : Int32} {S : wd_S} {x : Int32} {S' : wd_S}, slf 51 a b S = some (x, S') → ev_r tb_P L xs D 51 [.ref 47, .int a] (wd_k S) (.inl (some (.int x)), wd_k S')) (hs52 : ∀ {a b : Int32} {S : wd_S} {x : Int32} {S' : wd_S}, slf 52 a b S = some (x, S') → ev_r tb_P L xs D 52 [.ref 47, .int a] (wd_k S) (.inl (some (.int x)), wd_k S')) (hs54 : ∀ {a b : Int32} {S : wd_S} {x : Int32} {S' : wd_S}, slf 54 a b S = some (x, S') → ev_r tb_P L xs D 54 [.ref 47, .int a, .int b] (wd_k S) (.inl (some (.int x)), wd_k S')) : ∀ (n : Nat) {l2 : Int32} {l3 : Int32} {l4 : Int32} {S : wd_S} {x : Int32} {S' : wd_S}, fn_Reader_takeCall_43 slf n l2 l3 l4 S = some (x, S') → go_r tb_P L xs D 54 43 [(0, .ref 47), (2, .int l2), (3, .int l3), (4, .int l4)] [] (wd_k S) (.inl (some (.int x)), wd_k S') := by
  intro n
  induction n with
  | zero => intro l2 l3 l4 S x S'  h; cases h
  | succ n ih =>
    intro l2 l3 l4 S x S'  h
    rw [fn_Reader_takeCall_43] at h
    refine bk_b (q := (48, [(0, .ref 47), (2, .int l2), (3, .int l3), (4, .int l4)], [.int (1500 : Int32), .int l4])) tb_c_54_0 mx_54 2 rfl ?_
    by_cases g19 : l4 < (1500 : Int32)
    · rw [if_pos g19] at h
      refine bk_jf tb_c_54_0 rfl (pc' := 51) rfl (t := 87) rfl (cm_ge_f g19) ?_
      refine bk_b (q := (52, [(0, .ref 47), (2, .int l2), (3, .int l3), (4, .int l4)], [.ref 47])) tb_c_54_0 mx_54 1 rfl ?_
      refine bk_gi tb_c_54_0 rfl rfl (ci := 4) (k := 4) rfl rfl rfl ?_
      refine bk_b (q := (57, [(0, .ref 47), (2, .int l2), (3, .int l3), (4, .int l4)], [.int (17 : Int32), .int (S.1 47 4)])) tb_c_54_0 mx_54 1 rfl ?_
      by_cases g20 : (S.1 47 4) = (17 : Int32)
      · rw [if_pos g20] at h
        refine bk_jf tb_c_54_0 rfl (pc' := 60) rfl (t := 87) rfl (cm_ne_f g20) ?_
        refine bk_b (q := (63, [(0, .ref 47), (2, .int l2), (3, .int l3), (4, .int l4)], [.int (17 : Int32), .ref 47])) tb_c_54_0 mx_54 2 rfl ?_
        obtain ⟨S21, c23, h⟩ := wd_dx h
        refine bk_kv tb_c_54_0 rfl rfl rfl rfl rfl (ci := 4) rfl rfl (ev_up (Nat.le_trans (Nat.le_of_ble_eq_true rfl) hD) (sn_Reader_takeKind c23)) ?_
        refine bk_b (q := (67, [(0, .ref 47), (2, .int l2), (3, .int l3), (4, .int l4)], [.ref 47])) tb_c_54_0 mx_54 1 rfl ?_
        refine bk_gm tb_c_54_0 rfl rfl (ci := 4) (k := 2) rfl rfl rfl ?_
        by_cases g24 : tp_t (S21.2.2.1 47 2) = (0, 8)
        · rw [if_pos g24] at h
          refine bk_b (q := (74, [(0, .ref 47), (2, .int l2), (3, .int l3), (4, .int l4)], [.int (1 : Int32), .int l2, .ref 47, .int l3, .ref (S21.2.2.1 47 2)])) tb_c_54_0 mx_54 4 rfl ?_
          refine bk_b (q := (75, [(0, .ref 47), (2, .int l2), (3, .int l3), (4, .int l4)], [.int (l2 + (1 : Int32)), .ref 47, .int l3, .ref (S21.2.2.1 47 2)])) tb_c_54_1 mx_54 1 rfl ?_
          obtain ⟨x26, S25, c27, h⟩ := wd_cx h
          refine bk_kv tb_c_54_1 rfl rfl rfl rfl rfl (ci := 4) rfl rfl (hs43 (b := 0) c27) ?_
          obtain ⟨S28, c30, h⟩ := wd_dx h
          refine bk_kv tb_c_54_1 rfl rfl rfl rfl rfl (ci := 8) g24 rfl (ev_up (Nat.le_trans (Nat.le_of_ble_eq_true rfl) hD) (sn_Trees_append g24 c30)) ?_
          refine bk_b (q := (43, [(4, .int (l4 + (1 : Int32))), (0, .ref 47), (2, .int l2), (3, .int l3)], [])) tb_c_54_1 mx_54 2 rfl ?_
          exact go_lv (ls_sc rfl rfl (ls_sc rfl rfl (ls_sc rfl rfl (ls_sc rfl rfl ls_nil)))) (ih h)
        · rw [if_neg g24] at h; cases h
      · rw [if_neg g20] at h
        refine bk_jt tb_c_54_0 rfl (pc' := 87) rfl (cm_ne_t g20) ?_
        exact go_lv (ls_sc rfl rfl (ls_sc rfl rfl ls_nil)) (sn_Reader_takeCall_87 hD hs43 hs45 hs48 hs49 hs50 hs51 hs52 hs54 h)
    · rw [if_neg g19] at h
      refine bk_jt tb_c_54_0 rfl (pc' := 87) rfl (cm_ge_t g19) ?_
      exact go_lv (ls_sc rfl rfl (ls_sc rfl rfl ls_nil)) (sn_Reader_takeCall_87 hD hs43 hs45 hs48 hs49 hs50 hs51 hs52 hs54 h)
/-- Specialiser$Reader.takeCall(II)I -/
noncomputable def fn_Reader_takeCall (slf : Nat → Int32 → Int32 → wd_S → Option (Int32 × wd_S)) (p1 : Int32) (p2 : Int32) (S : wd_S) : Option (Int32 × wd_S) :=
  (if tp_t (S.2.2.1 47 2) = (0, 8) then
    (wd_c (fn_Trees_open (S.2.2.1 47 2) (5 : Int32) p1 S) fun x3 S2 =>
    (wd_d (fn_Reader_takeKind (15 : Int32) S2) fun S5 =>
    (if (S5.1 47 4) = (16 : Int32) then
      fn_Reader_takeCall_87 slf x3 S5
    else
      (if tp_t (S5.2.2.1 47 2) = (0, 8) then
        (wd_c (slf 43 (p2 + (1 : Int32)) 0 S5) fun x14 S13 =>
        (wd_d (fn_Trees_append (S5.2.2.1 47 2) x3 x14 S13) fun S16 =>
        fn_Reader_takeCall_43 slf wd_F p2 x3 (0 : Int32) S16))
      else none))))
  else none)
set_option maxRecDepth 100000 in
theorem sn_Reader_takeCall {L : Nat} {xs : Nat → Int32} {D : Nat} {slf : Nat → Int32 → Int32 → wd_S → Option (Int32 × wd_S)} (hD : 4 ≤ D) (hs43 : ∀ {a b : Int32} {S : wd_S} {x : Int32} {S' : wd_S}, slf 43 a b S = some (x, S') → ev_r tb_P L xs D 43 [.ref 47, .int a] (wd_k S) (.inl (some (.int x)), wd_k S')) (hs45 : ∀ {a b : Int32} {S : wd_S} {x : Int32} {S' : wd_S}, slf 45 a b S = some (x, S') → ev_r tb_P L xs D 45 [.ref 47, .int a] (wd_k S) (.inl (some (.int x)), wd_k S')) (hs48 : ∀ {a b : Int32} {S : wd_S} {x : Int32} {S' : wd_S}, slf 48 a b S = some (x, S') → ev_r tb_P L xs D 48 [.ref 47, .int a] (wd_k S) (.inl (some (.int x)), wd_k S')) (hs49 : ∀ {a b : Int32} {S : wd_S} {x : Int32} {S' : wd_S}, slf 49 a b S = some (x, S') → ev_r tb_P L xs D 49 [.ref 47, .int a] (wd_k S) (.inl (some (.int x)), wd_k S')) (hs50 : ∀ {a b : Int32} {S : wd_S} {x : Int32} {S' : wd_S}, slf 50 a b S = some (x, S') → ev_r tb_P L xs D 50 [.ref 47, .int a] (wd_k S) (.inl (some (.int x)), wd_k S')) (hs51 : ∀ {a b : Int32} {S : wd_S} {x : Int32} {S' : wd_S}, slf 51 a b S = some (x, S') → ev_r tb_P L xs D 51 [.ref 47, .int a] (wd_k S) (.inl (some (.int x)), wd_k S')) (hs52 : ∀ {a b : Int32} {S : wd_S} {x : Int32} {S' : wd_S}, slf 52 a b S = some (x, S') → ev_r tb_P L xs D 52 [.ref 47, .int a] (wd_k S) (.inl (some (.int x)), wd_k S')) (hs54 : ∀ {a b : Int32} {S : wd_S} {x : Int32} {S' : wd_S}, slf 54 a b S = some (x, S') → ev_r tb_P L xs D 54 [.ref 47, .int a, .int b] (wd_k S) (.inl (some (.int x)), wd_k S')) {p1 : Int32} {p2 : Int32} {S : wd_S} {x : Int32} {S' : wd_S} (h : fn_Reader_takeCall slf p1 p2 S = some (x, S')) : ev_r tb_P L xs (D + 1) 54 [.ref 47, .int p1, .int p2] (wd_k S) (.inl (some (.int x)), wd_k S') := by
  unfold fn_Reader_takeCall at h
  refine ev_of (Nat.le_of_ble_eq_true rfl) ?_
  show go_r tb_P L xs D 54 0 [(0, .ref 47), (1, .int p1), (2, .int p2)] [] (wd_k S) (.inl (some (.int x)), wd_k S')
  refine bk_b (q := (1, [(0, .ref 47), (1, .int p1), (2, .int p2)], [.ref 47])) tb_c_54_0 mx_54 1 rfl ?_
  refine bk_gm tb_c_54_0 rfl rfl (ci := 4) (k := 2) rfl rfl rfl ?_
  by_cases g1 : tp_t (S.2.2.1 47 2) = (0, 8)
  · rw [if_pos g1] at h
    refine bk_b (q := (6, [(0, .ref 47), (1, .int p1), (2, .int p2)], [.int p1, .int (5 : Int32), .ref (S.2.2.1 47 2)])) tb_c_54_0 mx_54 2 rfl ?_
    obtain ⟨x3, S2, c4, h⟩ := wd_cx h
    refine bk_kv tb_c_54_0 rfl rfl rfl rfl rfl (ci := 8) g1 rfl (ev_up (Nat.le_trans (Nat.le_of_ble_eq_true rfl) hD) (sn_Trees_open g1 c4)) ?_
    refine bk_b (q := (13, [(3, .int x3), (0, .ref 47), (1, .int p1), (2, .int p2)], [.int (15 : Int32), .ref 47])) tb_c_54_0 mx_54 3 rfl ?_
    obtain ⟨S5, c7, h⟩ := wd_dx h
    refine bk_kv tb_c_54_0 rfl rfl rfl rfl rfl (ci := 4) rfl rfl (ev_up (Nat.le_trans (Nat.le_of_ble_eq_true rfl) hD) (sn_Reader_takeKind c7)) ?_
    refine bk_b (q := (17, [(3, .int x3), (0, .ref 47), (1, .int p1), (2, .int p2)], [.ref 47])) tb_c_54_0 mx_54 1 rfl ?_
    refine bk_gi tb_c_54_0 rfl rfl (ci := 4) (k := 4) rfl rfl rfl ?_
    refine bk_b (q := (22, [(3, .int x3), (0, .ref 47), (1, .int p1), (2, .int p2)], [.int (16 : Int32), .int (S5.1 47 4)])) tb_c_54_0 mx_54 1 rfl ?_
    by_cases g8 : (S5.1 47 4) = (16 : Int32)
    · rw [if_pos g8] at h
      refine bk_jt tb_c_54_0 rfl (pc' := 87) rfl (cm_eq_t g8) ?_
      exact go_lv (ls_sc rfl rfl (ls_sc rfl rfl ls_nil)) (sn_Reader_takeCall_87 hD hs43 hs45 hs48 hs49 hs50 hs51 hs52 hs54 h)
    · rw [if_neg g8] at h
      refine bk_jf tb_c_54_0 rfl (pc' := 25) rfl (t := 87) rfl (cm_eq_f g8) ?_
      refine bk_b (q := (26, [(3, .int x3), (0, .ref 47), (1, .int p1), (2, .int p2)], [.ref 47])) tb_c_54_0 mx_54 1 rfl ?_
      refine bk_gm tb_c_54_0 rfl rfl (ci := 4) (k := 2) rfl rfl rfl ?_
      by_cases g12 : tp_t (S5.2.2.1 47 2) = (0, 8)
      · rw [if_pos g12] at h
        refine bk_b (q := (34, [(3, .int x3), (0, .ref 47), (1, .int p1), (2, .int p2)], [.int (p2 + (1 : Int32)), .ref 47, .int x3, .ref (S5.2.2.1 47 2)])) tb_c_54_0 mx_54 5 rfl ?_
        obtain ⟨x14, S13, c15, h⟩ := wd_cx h
        refine bk_kv tb_c_54_0 rfl rfl rfl rfl rfl (ci := 4) rfl rfl (hs43 (b := 0) c15) ?_
        obtain ⟨S16, c18, h⟩ := wd_dx h
        refine bk_kv tb_c_54_0 rfl rfl rfl rfl rfl (ci := 8) g12 rfl (ev_up (Nat.le_trans (Nat.le_of_ble_eq_true rfl) hD) (sn_Trees_append g12 c18)) ?_
        refine bk_b (q := (43, [(4, .int (0 : Int32)), (3, .int x3), (0, .ref 47), (1, .int p1), (2, .int p2)], [])) tb_c_54_0 mx_54 2 rfl ?_
        exact go_lv (ls_sc rfl rfl (ls_sc rfl rfl (ls_sc rfl rfl (ls_sc rfl rfl ls_nil)))) (sn_Reader_takeCall_43 hD hs43 hs45 hs48 hs49 hs50 hs51 hs52 hs54 wd_F h)
      · rw [if_neg g12] at h; cases h
  · rw [if_neg g1] at h; cases h
