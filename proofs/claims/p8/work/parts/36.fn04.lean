/-! Methods as functions: printed by wip/whole/gen_fn.py. -/
theorem mx_60 : mi_mx tb_P 60 = 2 := rfl
/-- Specialiser$Trees.kind(I)I -/
noncomputable def fn_Trees_kind (p0 : Nat) (p1 : Int32) (S : wd_S) : Option (Int32 × wd_S) :=
  (wd_c (fn_Row_at (p0 + 1) p1 S) fun x2 S1 =>
  some (x2, S1))
set_option maxRecDepth 100000 in
theorem sn_Trees_kind {L : Nat} {xs : Nat → Int32} {p0 : Nat} {p1 : Int32} {S : wd_S} {x : Int32} {S' : wd_S} (hp0 : tp_t p0 = (0, 8)) (h : fn_Trees_kind p0 p1 S = some (x, S')) : ev_r tb_P L xs (1 + 1) 60 [.ref p0, .int p1] (wd_k S) (.inl (some (.int x)), wd_k S') := by
  unfold fn_Trees_kind at h
  refine ev_of (Nat.le_of_ble_eq_true rfl) ?_
  show go_r tb_P L xs 1 60 0 [(0, .ref p0), (1, .int p1)] [] (wd_k S) (.inl (some (.int x)), wd_k S')
  refine bk_b (q := (1, [(0, .ref p0), (1, .int p1)], [.ref p0])) tb_c_60_0 mx_60 1 rfl ?_
  refine bk_go tb_c_60_0 rfl rfl (ci := 8) (k := 0) rfl hp0 rfl ?_
  refine bk_b (q := (5, [(0, .ref p0), (1, .int p1)], [.int p1, .ref (p0 + 1)])) tb_c_60_0 mx_60 1 rfl ?_
  obtain ⟨x2, S1, c3, h⟩ := wd_cx h
  refine bk_kv tb_c_60_0 rfl rfl rfl rfl rfl (ci := 5) (tp_8_0 hp0) rfl (ev_up (Nat.le_of_ble_eq_true rfl) (sn_Row_at (tp_8_0 hp0) c3)) ?_
  cases h
  exact bk_t tb_c_60_0 rfl rfl
theorem mx_61 : mi_mx tb_P 61 = 2 := rfl
/-- Specialiser$Trees.value(I)I -/
noncomputable def fn_Trees_value (p0 : Nat) (p1 : Int32) (S : wd_S) : Option (Int32 × wd_S) :=
  (wd_c (fn_Row_at (p0 + 3) p1 S) fun x2 S1 =>
  some (x2, S1))
set_option maxRecDepth 100000 in
theorem sn_Trees_value {L : Nat} {xs : Nat → Int32} {p0 : Nat} {p1 : Int32} {S : wd_S} {x : Int32} {S' : wd_S} (hp0 : tp_t p0 = (0, 8)) (h : fn_Trees_value p0 p1 S = some (x, S')) : ev_r tb_P L xs (1 + 1) 61 [.ref p0, .int p1] (wd_k S) (.inl (some (.int x)), wd_k S') := by
  unfold fn_Trees_value at h
  refine ev_of (Nat.le_of_ble_eq_true rfl) ?_
  show go_r tb_P L xs 1 61 0 [(0, .ref p0), (1, .int p1)] [] (wd_k S) (.inl (some (.int x)), wd_k S')
  refine bk_b (q := (1, [(0, .ref p0), (1, .int p1)], [.ref p0])) tb_c_61_0 mx_61 1 rfl ?_
  refine bk_go tb_c_61_0 rfl rfl (ci := 8) (k := 1) rfl hp0 rfl ?_
  refine bk_b (q := (5, [(0, .ref p0), (1, .int p1)], [.int p1, .ref (p0 + 3)])) tb_c_61_0 mx_61 1 rfl ?_
  obtain ⟨x2, S1, c3, h⟩ := wd_cx h
  refine bk_kv tb_c_61_0 rfl rfl rfl rfl rfl (ci := 5) (tp_8_1 hp0) rfl (ev_up (Nat.le_of_ble_eq_true rfl) (sn_Row_at (tp_8_1 hp0) c3)) ?_
  cases h
  exact bk_t tb_c_61_0 rfl rfl
theorem mx_63 : mi_mx tb_P 63 = 2 := rfl
/-- Specialiser$Trees.parts(I)I -/
noncomputable def fn_Trees_parts (p0 : Nat) (p1 : Int32) (S : wd_S) : Option (Int32 × wd_S) :=
  (wd_c (fn_Row_at (p0 + 5) p1 S) fun x2 S1 =>
  some (x2, S1))
set_option maxRecDepth 100000 in
theorem sn_Trees_parts {L : Nat} {xs : Nat → Int32} {p0 : Nat} {p1 : Int32} {S : wd_S} {x : Int32} {S' : wd_S} (hp0 : tp_t p0 = (0, 8)) (h : fn_Trees_parts p0 p1 S = some (x, S')) : ev_r tb_P L xs (1 + 1) 63 [.ref p0, .int p1] (wd_k S) (.inl (some (.int x)), wd_k S') := by
  unfold fn_Trees_parts at h
  refine ev_of (Nat.le_of_ble_eq_true rfl) ?_
  show go_r tb_P L xs 1 63 0 [(0, .ref p0), (1, .int p1)] [] (wd_k S) (.inl (some (.int x)), wd_k S')
  refine bk_b (q := (1, [(0, .ref p0), (1, .int p1)], [.ref p0])) tb_c_63_0 mx_63 1 rfl ?_
  refine bk_go tb_c_63_0 rfl rfl (ci := 8) (k := 2) rfl hp0 rfl ?_
  refine bk_b (q := (5, [(0, .ref p0), (1, .int p1)], [.int p1, .ref (p0 + 5)])) tb_c_63_0 mx_63 1 rfl ?_
  obtain ⟨x2, S1, c3, h⟩ := wd_cx h
  refine bk_kv tb_c_63_0 rfl rfl rfl rfl rfl (ci := 5) (tp_8_2 hp0) rfl (ev_up (Nat.le_of_ble_eq_true rfl) (sn_Row_at (tp_8_2 hp0) c3)) ?_
  cases h
  exact bk_t tb_c_63_0 rfl rfl
theorem mx_64 : mi_mx tb_P 64 = 2 := rfl
/-- Specialiser$Bodies.params(I)I -/
noncomputable def fn_Bodies_params (p0 : Nat) (p1 : Int32) (S : wd_S) : Option (Int32 × wd_S) :=
  (wd_c (fn_Row_at (p0 + 16) p1 S) fun x2 S1 =>
  some (x2, S1))
set_option maxRecDepth 100000 in
theorem sn_Bodies_params {L : Nat} {xs : Nat → Int32} {p0 : Nat} {p1 : Int32} {S : wd_S} {x : Int32} {S' : wd_S} (hp0 : tp_t p0 = (0, 0)) (h : fn_Bodies_params p0 p1 S = some (x, S')) : ev_r tb_P L xs (1 + 1) 64 [.ref p0, .int p1] (wd_k S) (.inl (some (.int x)), wd_k S') := by
  unfold fn_Bodies_params at h
  refine ev_of (Nat.le_of_ble_eq_true rfl) ?_
  show go_r tb_P L xs 1 64 0 [(0, .ref p0), (1, .int p1)] [] (wd_k S) (.inl (some (.int x)), wd_k S')
  refine bk_b (q := (1, [(0, .ref p0), (1, .int p1)], [.ref p0])) tb_c_64_0 mx_64 1 rfl ?_
  refine bk_go tb_c_64_0 rfl rfl (ci := 0) (k := 2) rfl hp0 rfl ?_
  refine bk_b (q := (5, [(0, .ref p0), (1, .int p1)], [.int p1, .ref (p0 + 16)])) tb_c_64_0 mx_64 1 rfl ?_
  obtain ⟨x2, S1, c3, h⟩ := wd_cx h
  refine bk_kv tb_c_64_0 rfl rfl rfl rfl rfl (ci := 5) (tp_0_2 hp0) rfl (ev_up (Nat.le_of_ble_eq_true rfl) (sn_Row_at (tp_0_2 hp0) c3)) ?_
  cases h
  exact bk_t tb_c_64_0 rfl rfl
theorem mx_65 : mi_mx tb_P 65 = 3 := rfl
/-- Specialiser$Trees.lead(II)V -/
noncomputable def fn_Trees_lead (p0 : Nat) (p1 : Int32) (p2 : Int32) (S : wd_S) : Option wd_S :=
  (wd_d (fn_Row_put (p0 + 3) p1 p2 S) fun S1 =>
  some S1)
set_option maxRecDepth 100000 in
theorem sn_Trees_lead {L : Nat} {xs : Nat → Int32} {p0 : Nat} {p1 : Int32} {p2 : Int32} {S : wd_S} {S' : wd_S} (hp0 : tp_t p0 = (0, 8)) (h : fn_Trees_lead p0 p1 p2 S = some S') : ev_r tb_P L xs (1 + 1) 65 [.ref p0, .int p1, .int p2] (wd_k S) (.inl none, wd_k S') := by
  unfold fn_Trees_lead at h
  refine ev_of (Nat.le_of_ble_eq_true rfl) ?_
  show go_r tb_P L xs 1 65 0 [(0, .ref p0), (1, .int p1), (2, .int p2)] [] (wd_k S) (.inl none, wd_k S')
  refine bk_b (q := (1, [(0, .ref p0), (1, .int p1), (2, .int p2)], [.ref p0])) tb_c_65_0 mx_65 1 rfl ?_
  refine bk_go tb_c_65_0 rfl rfl (ci := 8) (k := 1) rfl hp0 rfl ?_
  refine bk_b (q := (6, [(0, .ref p0), (1, .int p1), (2, .int p2)], [.int p2, .int p1, .ref (p0 + 3)])) tb_c_65_0 mx_65 2 rfl ?_
  obtain ⟨S1, c3, h⟩ := wd_dx h
  refine bk_kv tb_c_65_0 rfl rfl rfl rfl rfl (ci := 5) (tp_8_1 hp0) rfl (ev_up (Nat.le_of_ble_eq_true rfl) (sn_Row_put (tp_8_1 hp0) c3)) ?_
  cases h
  exact bk_t tb_c_65_0 rfl rfl
theorem mx_62 : mi_mx tb_P 62 = 4 := rfl
noncomputable def fn_Reader_leadCall_62 (l1 : Int32) (l3 : Int32) (S : wd_S) : Option wd_S :=
  (if tp_t (S.2.2.1 47 2) = (0, 8) then
    (wd_d (fn_Trees_lead (S.2.2.1 47 2) l1 l3 S) fun S22 =>
    some S22)
  else none)
set_option maxRecDepth 100000 in
theorem sn_Reader_leadCall_62 {L : Nat} {xs : Nat → Int32} {l1 : Int32} {l3 : Int32} {S : wd_S} {S' : wd_S} (h : fn_Reader_leadCall_62 l1 l3 S = some S') : go_r tb_P L xs 2 62 62 [(0, .ref 47), (1, .int l1), (3, .int l3)] [] (wd_k S) (.inl none, wd_k S') := by
  unfold fn_Reader_leadCall_62 at h
  refine bk_b (q := (63, [(0, .ref 47), (1, .int l1), (3, .int l3)], [.ref 47])) tb_c_62_0 mx_62 1 rfl ?_
  refine bk_gm tb_c_62_0 rfl rfl (ci := 4) (k := 2) rfl rfl rfl ?_
  by_cases g21 : tp_t (S.2.2.1 47 2) = (0, 8)
  · rw [if_pos g21] at h
    refine bk_b (q := (68, [(0, .ref 47), (1, .int l1), (3, .int l3)], [.int l3, .int l1, .ref (S.2.2.1 47 2)])) tb_c_62_0 mx_62 2 rfl ?_
    obtain ⟨S22, c24, h⟩ := wd_dx h
    refine bk_kv tb_c_62_0 rfl rfl rfl rfl rfl (ci := 8) g21 rfl (ev_up (Nat.le_of_ble_eq_true rfl) (sn_Trees_lead g21 c24)) ?_
    cases h
    exact bk_t tb_c_62_0 rfl rfl
  · rw [if_neg g21] at h; cases h
/-- Specialiser$Reader.leadCall(II)V -/
noncomputable def fn_Reader_leadCall (p1 : Int32) (p2 : Int32) (S : wd_S) : Option wd_S :=
  (wd_c (fn_Tokens_value p2 S) fun x2 S1 =>
  (if tp_t (S1.2.2.1 47 1) = (0, 0) then
    (wd_c (fn_Bodies_count (S1.2.2.1 47 1) S1) fun x6 S5 =>
    (wd_c (fn_LongRow_lastOf 48 x2 x6 S5) fun x9 S8 =>
    (if x9 = (-1 : Int32) then
      (wd_d (fn_Reader_faultAt (4 : Int32) p2 S8) fun S28 =>
      fn_Reader_leadCall_62 p1 x9 S28)
    else
      (if tp_t (S8.2.2.1 47 2) = (0, 8) then
        (wd_c (fn_Trees_parts (S8.2.2.1 47 2) p1 S8) fun x14 S13 =>
        (if tp_t (S13.2.2.1 47 1) = (0, 0) then
          (wd_c (fn_Bodies_params (S13.2.2.1 47 1) x9 S13) fun x18 S17 =>
          (if x14 = x18 then
            fn_Reader_leadCall_62 p1 x9 S17
          else
            (wd_d (fn_Reader_faultAt (5 : Int32) p2 S17) fun S25 =>
            fn_Reader_leadCall_62 p1 x9 S25)))
        else none))
      else none))))
  else none))
set_option maxRecDepth 100000 in
theorem sn_Reader_leadCall {L : Nat} {xs : Nat → Int32} {p1 : Int32} {p2 : Int32} {S : wd_S} {S' : wd_S} (h : fn_Reader_leadCall p1 p2 S = some S') : ev_r tb_P L xs (2 + 1) 62 [.ref 47, .int p1, .int p2] (wd_k S) (.inl none, wd_k S') := by
  unfold fn_Reader_leadCall at h
  refine ev_of (Nat.le_of_ble_eq_true rfl) ?_
  show go_r tb_P L xs 2 62 0 [(0, .ref 47), (1, .int p1), (2, .int p2)] [] (wd_k S) (.inl none, wd_k S')
  refine bk_b (q := (1, [(0, .ref 47), (1, .int p1), (2, .int p2)], [.ref 47])) tb_c_62_0 mx_62 1 rfl ?_
  refine bk_gc tb_c_62_0 rfl rfl (ci := 4) (k := 7) rfl rfl rfl ?_
  refine bk_b (q := (5, [(0, .ref 47), (1, .int p1), (2, .int p2)], [.ref 47, .ref 48])) tb_c_62_0 mx_62 1 rfl ?_
  refine bk_gc tb_c_62_0 rfl rfl (ci := 4) (k := 0) rfl rfl rfl ?_
  refine bk_b (q := (9, [(0, .ref 47), (1, .int p1), (2, .int p2)], [.int p2, .ref 4, .ref 48])) tb_c_62_0 mx_62 1 rfl ?_
  obtain ⟨x2, S1, c3, h⟩ := wd_cx h
  refine bk_kv tb_c_62_0 rfl rfl rfl rfl rfl (ci := 7) rfl rfl (ev_up (Nat.le_of_ble_eq_true rfl) (sn_Tokens_value c3)) ?_
  refine bk_b (q := (13, [(0, .ref 47), (1, .int p1), (2, .int p2)], [.ref 47, .long x2, .ref 48])) tb_c_62_0 mx_62 1 rfl ?_
  refine bk_gm tb_c_62_0 rfl rfl (ci := 4) (k := 1) rfl rfl rfl ?_
  by_cases g4 : tp_t (S1.2.2.1 47 1) = (0, 0)
  · rw [if_pos g4] at h
    obtain ⟨x6, S5, c7, h⟩ := wd_cx h
    refine bk_kv tb_c_62_0 rfl rfl rfl rfl rfl (ci := 0) g4 rfl (ev_up (Nat.le_of_ble_eq_true rfl) (sn_Bodies_count g4 c7)) ?_
    obtain ⟨x9, S8, c10, h⟩ := wd_cx h
    refine bk_kv tb_c_62_0 rfl rfl rfl rfl rfl (ci := 1) rfl rfl (ev_up (Nat.le_of_ble_eq_true rfl) (sn_LongRow_lastOf rfl c10)) ?_
    refine bk_b (q := (25, [(3, .int x9), (0, .ref 47), (1, .int p1), (2, .int p2)], [.int (-1 : Int32), .int x9])) tb_c_62_0 mx_62 3 rfl ?_
    by_cases g11 : x9 = (-1 : Int32)
    · rw [if_pos g11] at h
      refine bk_jf tb_c_62_0 rfl (pc' := 28) rfl (t := 37) rfl (cm_ne_f g11) ?_
      refine bk_b (q := (31, [(3, .int x9), (0, .ref 47), (1, .int p1), (2, .int p2)], [.int p2, .int (4 : Int32), .ref 47])) tb_c_62_0 mx_62 3 rfl ?_
      obtain ⟨S28, c30, h⟩ := wd_dx h
      refine bk_kv tb_c_62_0 rfl rfl rfl rfl rfl (ci := 4) rfl rfl (ev_up (Nat.le_of_ble_eq_true rfl) (sn_Reader_faultAt c30)) ?_
      refine bk_b (q := (62, [(3, .int x9), (0, .ref 47), (1, .int p1), (2, .int p2)], [])) tb_c_62_0 mx_62 1 rfl ?_
      exact go_lv (ls_sc rfl rfl (ls_sc rfl rfl (ls_sc rfl rfl ls_nil))) (sn_Reader_leadCall_62 h)
    · rw [if_neg g11] at h
      refine bk_jt tb_c_62_0 rfl (pc' := 37) rfl (cm_ne_t g11) ?_
      refine bk_b (q := (38, [(3, .int x9), (0, .ref 47), (1, .int p1), (2, .int p2)], [.ref 47])) tb_c_62_0 mx_62 1 rfl ?_
      refine bk_gm tb_c_62_0 rfl rfl (ci := 4) (k := 2) rfl rfl rfl ?_
      by_cases g12 : tp_t (S8.2.2.1 47 2) = (0, 8)
      · rw [if_pos g12] at h
        refine bk_b (q := (42, [(3, .int x9), (0, .ref 47), (1, .int p1), (2, .int p2)], [.int p1, .ref (S8.2.2.1 47 2)])) tb_c_62_0 mx_62 1 rfl ?_
        obtain ⟨x14, S13, c15, h⟩ := wd_cx h
        refine bk_kv tb_c_62_0 rfl rfl rfl rfl rfl (ci := 8) g12 rfl (ev_up (Nat.le_of_ble_eq_true rfl) (sn_Trees_parts g12 c15)) ?_
        refine bk_b (q := (46, [(3, .int x9), (0, .ref 47), (1, .int p1), (2, .int p2)], [.ref 47, .int x14])) tb_c_62_0 mx_62 1 rfl ?_
        refine bk_gm tb_c_62_0 rfl rfl (ci := 4) (k := 1) rfl rfl rfl ?_
        by_cases g16 : tp_t (S13.2.2.1 47 1) = (0, 0)
        · rw [if_pos g16] at h
          refine bk_b (q := (50, [(3, .int x9), (0, .ref 47), (1, .int p1), (2, .int p2)], [.int x9, .ref (S13.2.2.1 47 1), .int x14])) tb_c_62_0 mx_62 1 rfl ?_
          obtain ⟨x18, S17, c19, h⟩ := wd_cx h
          refine bk_kv tb_c_62_0 rfl rfl rfl rfl rfl (ci := 0) g16 rfl (ev_up (Nat.le_of_ble_eq_true rfl) (sn_Bodies_params g16 c19)) ?_
          by_cases g20 : x14 = x18
          · rw [if_pos g20] at h
            refine bk_jt tb_c_62_0 rfl (pc' := 62) rfl (cm_eq_t g20) ?_
            exact go_lv (ls_sc rfl rfl (ls_sc rfl rfl (ls_sc rfl rfl ls_nil))) (sn_Reader_leadCall_62 h)
          · rw [if_neg g20] at h
            refine bk_jf tb_c_62_0 rfl (pc' := 56) rfl (t := 62) rfl (cm_eq_f g20) ?_
            refine bk_b (q := (59, [(3, .int x9), (0, .ref 47), (1, .int p1), (2, .int p2)], [.int p2, .int (5 : Int32), .ref 47])) tb_c_62_0 mx_62 3 rfl ?_
            obtain ⟨S25, c27, h⟩ := wd_dx h
            refine bk_kv tb_c_62_0 rfl rfl rfl rfl rfl (ci := 4) rfl rfl (ev_up (Nat.le_of_ble_eq_true rfl) (sn_Reader_faultAt c27)) ?_
            exact go_lv (ls_sc rfl rfl (ls_sc rfl rfl (ls_sc rfl rfl ls_nil))) (sn_Reader_leadCall_62 h)
        · rw [if_neg g16] at h; cases h
      · rw [if_neg g12] at h; cases h
  · rw [if_neg g4] at h; cases h
theorem mx_58 : mi_mx tb_P 58 = 3 := rfl
noncomputable def fn_Reader_leadCalls_99 (S : wd_S) : Option wd_S :=
  some S
set_option maxRecDepth 100000 in
theorem sn_Reader_leadCalls_99 {L : Nat} {xs : Nat → Int32} {S : wd_S} {S' : wd_S} (h : fn_Reader_leadCalls_99  S = some S') : go_r tb_P L xs 3 58 99 [] [] (wd_k S) (.inl none, wd_k S') := by
  unfold fn_Reader_leadCalls_99 at h
  cases h
  exact bk_t tb_c_58_1 rfl rfl
noncomputable def fn_Reader_leadCalls_82 (S : wd_S) : Option wd_S :=
  (if (S.1 47 12) = (-1 : Int32) then
    fn_Reader_leadCalls_99  S
  else
    (wd_d (fn_Reader_faultAt (4 : Int32) (S.1 47 12) S) fun S8 =>
    fn_Reader_leadCalls_99  S8))
set_option maxRecDepth 100000 in
theorem sn_Reader_leadCalls_82 {L : Nat} {xs : Nat → Int32} {S : wd_S} {S' : wd_S} (h : fn_Reader_leadCalls_82  S = some S') : go_r tb_P L xs 3 58 82 [(0, .ref 47)] [] (wd_k S) (.inl none, wd_k S') := by
  unfold fn_Reader_leadCalls_82 at h
  refine bk_b (q := (83, [(0, .ref 47)], [.ref 47])) tb_c_58_1 mx_58 1 rfl ?_
  refine bk_gi tb_c_58_1 rfl rfl (ci := 4) (k := 12) rfl rfl rfl ?_
  refine bk_b (q := (87, [(0, .ref 47)], [.int (-1 : Int32), .int (S.1 47 12)])) tb_c_58_1 mx_58 1 rfl ?_
  by_cases g7 : (S.1 47 12) = (-1 : Int32)
  · rw [if_pos g7] at h
    refine bk_jt tb_c_58_1 rfl (pc' := 99) rfl (cm_eq_t g7) ?_
    exact go_lv ls_nil (sn_Reader_leadCalls_99 h)
  · rw [if_neg g7] at h
    refine bk_jf tb_c_58_1 rfl (pc' := 90) rfl (t := 99) rfl (cm_eq_f g7) ?_
    refine bk_b (q := (93, [(0, .ref 47)], [.ref 47, .int (4 : Int32), .ref 47])) tb_c_58_1 mx_58 3 rfl ?_
    refine bk_gi tb_c_58_1 rfl rfl (ci := 4) (k := 12) rfl rfl rfl ?_
    obtain ⟨S8, c10, h⟩ := wd_dx h
    refine bk_kv tb_c_58_1 rfl rfl rfl rfl rfl (ci := 4) rfl rfl (ev_up (Nat.le_of_ble_eq_true rfl) (sn_Reader_faultAt c10)) ?_
    exact go_lv ls_nil (sn_Reader_leadCalls_99 h)
noncomputable def fn_Reader_leadCalls_76 (kk21 : Int32 → Int32 → wd_S → Option wd_S) (l1 : Int32) (l2 : Int32) (S : wd_S) : Option wd_S :=
  kk21 l1 (l2 + (1 : Int32)) S
set_option maxRecDepth 100000 in
theorem sn_Reader_leadCalls_76 {L : Nat} {xs : Nat → Int32} {kk21 : Int32 → Int32 → wd_S → Option wd_S} (hk21 : ∀ {l1 : Int32} {l2 : Int32} {S : wd_S} {S' : wd_S}, kk21 l1 l2 S = some S' → go_r tb_P L xs 3 58 21 [(0, .ref 47), (1, .int l1), (2, .int l2)] [] (wd_k S) (.inl none, wd_k S')) {l1 : Int32} {l2 : Int32} {S : wd_S} {S' : wd_S} (h : fn_Reader_leadCalls_76 kk21 l1 l2 S = some S') : go_r tb_P L xs 3 58 76 [(0, .ref 47), (1, .int l1), (2, .int l2)] [] (wd_k S) (.inl none, wd_k S') := by
  unfold fn_Reader_leadCalls_76 at h
  refine bk_b (q := (21, [(2, .int (l2 + (1 : Int32))), (0, .ref 47), (1, .int l1)], [])) tb_c_58_0 mx_58 2 rfl ?_
  exact go_lv (ls_sc rfl rfl (ls_sc rfl rfl (ls_sc rfl rfl ls_nil))) (hk21 h)
noncomputable def fn_Reader_leadCalls_21 : Nat → Int32 → Int32 → wd_S → Option wd_S
  | 0, _, _, _ => none
  | n + 1, l1, l2, S =>
    (if tp_t (S.2.2.1 47 2) = (0, 8) then
      (wd_c (fn_Trees_count (S.2.2.1 47 2) S) fun x4 S3 =>
      (if l2 < x4 then
        (if (S3.1 47 5) = 0 then
          (if tp_t (S3.2.2.1 47 2) = (0, 8) then
            (wd_c (fn_Trees_kind (S3.2.2.1 47 2) l2 S3) fun x14 S13 =>
            (if x14 = (5 : Int32) then
              (if tp_t (S13.2.2.1 47 2) = (0, 8) then
                (wd_c (fn_Trees_value (S13.2.2.1 47 2) l2 S13) fun x19 S18 =>
                (if x19 < l1 then
                  (if tp_t (S18.2.2.1 47 2) = (0, 8) then
                    (wd_c (fn_Trees_value (S18.2.2.1 47 2) l2 S18) fun x24 S23 =>
                    (wd_d (fn_Reader_leadCall l2 x24 S23) fun S26 =>
                    fn_Reader_leadCalls_76 (fn_Reader_leadCalls_21 n) l1 l2 S26))
                  else none)
                else
                  fn_Reader_leadCalls_76 (fn_Reader_leadCalls_21 n) l1 l2 S18))
              else none)
            else
              fn_Reader_leadCalls_76 (fn_Reader_leadCalls_21 n) l1 l2 S13))
          else none)
        else
          fn_Reader_leadCalls_82  S3)
      else
        fn_Reader_leadCalls_82  S3))
    else none)
set_option maxRecDepth 100000 in
theorem sn_Reader_leadCalls_21 {L : Nat} {xs : Nat → Int32} : ∀ (n : Nat) {l1 : Int32} {l2 : Int32} {S : wd_S} {S' : wd_S}, fn_Reader_leadCalls_21 n l1 l2 S = some S' → go_r tb_P L xs 3 58 21 [(0, .ref 47), (1, .int l1), (2, .int l2)] [] (wd_k S) (.inl none, wd_k S') := by
  intro n
  induction n with
  | zero => intro l1 l2 S S'  h; cases h
  | succ n ih =>
    intro l1 l2 S S'  h
    rw [fn_Reader_leadCalls_21] at h
    refine bk_b (q := (23, [(0, .ref 47), (1, .int l1), (2, .int l2)], [.ref 47, .int l2])) tb_c_58_0 mx_58 2 rfl ?_
    refine bk_gm tb_c_58_0 rfl rfl (ci := 4) (k := 2) rfl rfl rfl ?_
    by_cases g2 : tp_t (S.2.2.1 47 2) = (0, 8)
    · rw [if_pos g2] at h
      obtain ⟨x4, S3, c5, h⟩ := wd_cx h
      refine bk_kv tb_c_58_0 rfl rfl rfl rfl rfl (ci := 8) g2 rfl (ev_up (Nat.le_of_ble_eq_true rfl) (sn_Trees_count g2 c5)) ?_
      by_cases g6 : l2 < x4
      · rw [if_pos g6] at h
        refine bk_jf tb_c_58_0 rfl (pc' := 32) rfl (t := 82) rfl (cm_ge_f g6) ?_
        refine bk_b (q := (33, [(0, .ref 47), (1, .int l1), (2, .int l2)], [.ref 47])) tb_c_58_0 mx_58 1 rfl ?_
        refine bk_gi tb_c_58_0 rfl rfl (ci := 4) (k := 5) rfl rfl rfl ?_
        by_cases g11 : (S3.1 47 5) = 0
        · rw [if_pos g11] at h
          refine bk_zf tb_c_58_0 rfl (pc' := 39) rfl (t := 82) rfl (cm_ne_f g11) ?_
          refine bk_b (q := (40, [(0, .ref 47), (1, .int l1), (2, .int l2)], [.ref 47])) tb_c_58_0 mx_58 1 rfl ?_
          refine bk_gm tb_c_58_0 rfl rfl (ci := 4) (k := 2) rfl rfl rfl ?_
          by_cases g12 : tp_t (S3.2.2.1 47 2) = (0, 8)
          · rw [if_pos g12] at h
            refine bk_b (q := (44, [(0, .ref 47), (1, .int l1), (2, .int l2)], [.int l2, .ref (S3.2.2.1 47 2)])) tb_c_58_0 mx_58 1 rfl ?_
            obtain ⟨x14, S13, c15, h⟩ := wd_cx h
            refine bk_kv tb_c_58_0 rfl rfl rfl rfl rfl (ci := 8) g12 rfl (ev_up (Nat.le_of_ble_eq_true rfl) (sn_Trees_kind g12 c15)) ?_
            refine bk_b (q := (48, [(0, .ref 47), (1, .int l1), (2, .int l2)], [.int (5 : Int32), .int x14])) tb_c_58_0 mx_58 1 rfl ?_
            by_cases g16 : x14 = (5 : Int32)
            · rw [if_pos g16] at h
              refine bk_jf tb_c_58_0 rfl (pc' := 51) rfl (t := 76) rfl (cm_ne_f g16) ?_
              refine bk_b (q := (52, [(0, .ref 47), (1, .int l1), (2, .int l2)], [.ref 47])) tb_c_58_0 mx_58 1 rfl ?_
              refine bk_gm tb_c_58_0 rfl rfl (ci := 4) (k := 2) rfl rfl rfl ?_
              by_cases g17 : tp_t (S13.2.2.1 47 2) = (0, 8)
              · rw [if_pos g17] at h
                refine bk_b (q := (56, [(0, .ref 47), (1, .int l1), (2, .int l2)], [.int l2, .ref (S13.2.2.1 47 2)])) tb_c_58_0 mx_58 1 rfl ?_
                obtain ⟨x19, S18, c20, h⟩ := wd_cx h
                refine bk_kv tb_c_58_0 rfl rfl rfl rfl rfl (ci := 8) g17 rfl (ev_up (Nat.le_of_ble_eq_true rfl) (sn_Trees_value g17 c20)) ?_
                refine bk_b (q := (60, [(0, .ref 47), (1, .int l1), (2, .int l2)], [.int l1, .int x19])) tb_c_58_0 mx_58 1 rfl ?_
                by_cases g21 : x19 < l1
                · rw [if_pos g21] at h
                  refine bk_jf tb_c_58_0 rfl (pc' := 63) rfl (t := 76) rfl (cm_ge_f g21) ?_
                  refine bk_b (q := (66, [(0, .ref 47), (1, .int l1), (2, .int l2)], [.ref 47, .int l2, .ref 47])) tb_c_58_0 mx_58 3 rfl ?_
                  refine bk_gm tb_c_58_0 rfl rfl (ci := 4) (k := 2) rfl rfl rfl ?_
                  by_cases g22 : tp_t (S18.2.2.1 47 2) = (0, 8)
                  · rw [if_pos g22] at h
                    refine bk_b (q := (70, [(0, .ref 47), (1, .int l1), (2, .int l2)], [.int l2, .ref (S18.2.2.1 47 2), .int l2, .ref 47])) tb_c_58_0 mx_58 1 rfl ?_
                    obtain ⟨x24, S23, c25, h⟩ := wd_cx h
                    refine bk_kv tb_c_58_0 rfl rfl rfl rfl rfl (ci := 8) g22 rfl (ev_up (Nat.le_of_ble_eq_true rfl) (sn_Trees_value g22 c25)) ?_
                    obtain ⟨S26, c28, h⟩ := wd_dx h
                    refine bk_kv tb_c_58_0 rfl rfl rfl rfl rfl (ci := 4) rfl rfl (ev_up (Nat.le_of_ble_eq_true rfl) (sn_Reader_leadCall c28)) ?_
                    exact go_lv (ls_sc rfl rfl (ls_sc rfl rfl (ls_sc rfl rfl ls_nil))) (sn_Reader_leadCalls_76 ih h)
                  · rw [if_neg g22] at h; cases h
                · rw [if_neg g21] at h
                  refine bk_jt tb_c_58_0 rfl (pc' := 76) rfl (cm_ge_t g21) ?_
                  exact go_lv (ls_sc rfl rfl (ls_sc rfl rfl (ls_sc rfl rfl ls_nil))) (sn_Reader_leadCalls_76 ih h)
              · rw [if_neg g17] at h; cases h
            · rw [if_neg g16] at h
              refine bk_jt tb_c_58_0 rfl (pc' := 76) rfl (cm_ne_t g16) ?_
              exact go_lv (ls_sc rfl rfl (ls_sc rfl rfl (ls_sc rfl rfl ls_nil))) (sn_Reader_leadCalls_76 ih h)
          · rw [if_neg g12] at h; cases h
        · rw [if_neg g11] at h
          refine bk_zt tb_c_58_0 rfl (pc' := 82) rfl (cm_ne_t g11) ?_
          exact go_lv (ls_sc rfl rfl ls_nil) (sn_Reader_leadCalls_82 h)
      · rw [if_neg g6] at h
        refine bk_jt tb_c_58_0 rfl (pc' := 82) rfl (cm_ge_t g6) ?_
        exact go_lv (ls_sc rfl rfl ls_nil) (sn_Reader_leadCalls_82 h)
    · rw [if_neg g2] at h; cases h
noncomputable def fn_Reader_leadCalls_18 (s0 : Int32) (S : wd_S) : Option wd_S :=
  fn_Reader_leadCalls_21 wd_F s0 (0 : Int32) S
set_option maxRecDepth 100000 in
theorem sn_Reader_leadCalls_18 {L : Nat} {xs : Nat → Int32} {s0 : Int32} {S : wd_S} {S' : wd_S} (h : fn_Reader_leadCalls_18 s0 S = some S') : go_r tb_P L xs 3 58 18 [(0, .ref 47)] [.int s0] (wd_k S) (.inl none, wd_k S') := by
  unfold fn_Reader_leadCalls_18 at h
  refine bk_b (q := (21, [(2, .int (0 : Int32)), (1, .int s0), (0, .ref 47)], [])) tb_c_58_0 mx_58 3 rfl ?_
  exact go_lv (ls_sc rfl rfl (ls_sc rfl rfl (ls_sc rfl rfl ls_nil))) (sn_Reader_leadCalls_21 wd_F h)
/-- Specialiser$Reader.leadCalls()V -/
noncomputable def fn_Reader_leadCalls (S : wd_S) : Option wd_S :=
  (if (S.1 47 12) = (-1 : Int32) then
    fn_Reader_leadCalls_18 (1500 : Int32) S
  else
    fn_Reader_leadCalls_18 (S.1 47 12) S)
set_option maxRecDepth 100000 in
theorem sn_Reader_leadCalls {L : Nat} {xs : Nat → Int32} {S : wd_S} {S' : wd_S} (h : fn_Reader_leadCalls  S = some S') : ev_r tb_P L xs (3 + 1) 58 [.ref 47] (wd_k S) (.inl none, wd_k S') := by
  unfold fn_Reader_leadCalls at h
  refine ev_of (Nat.le_of_ble_eq_true rfl) ?_
  show go_r tb_P L xs 3 58 0 [(0, .ref 47)] [] (wd_k S) (.inl none, wd_k S')
  refine bk_b (q := (1, [(0, .ref 47)], [.ref 47])) tb_c_58_0 mx_58 1 rfl ?_
  refine bk_gi tb_c_58_0 rfl rfl (ci := 4) (k := 12) rfl rfl rfl ?_
  refine bk_b (q := (5, [(0, .ref 47)], [.int (-1 : Int32), .int (S.1 47 12)])) tb_c_58_0 mx_58 1 rfl ?_
  by_cases g1 : (S.1 47 12) = (-1 : Int32)
  · rw [if_pos g1] at h
    refine bk_jf tb_c_58_0 rfl (pc' := 8) rfl (t := 14) rfl (cm_ne_f g1) ?_
    refine bk_b (q := (18, [(0, .ref 47)], [.int (1500 : Int32)])) tb_c_58_0 mx_58 2 rfl ?_
    exact go_lv (ls_sc rfl rfl ls_nil) (sn_Reader_leadCalls_18 h)
  · rw [if_neg g1] at h
    refine bk_jt tb_c_58_0 rfl (pc' := 14) rfl (cm_ne_t g1) ?_
    refine bk_b (q := (15, [(0, .ref 47)], [.ref 47])) tb_c_58_0 mx_58 1 rfl ?_
    refine bk_gi tb_c_58_0 rfl rfl (ci := 4) (k := 12) rfl rfl rfl ?_
    exact go_lv (ls_sc rfl rfl ls_nil) (sn_Reader_leadCalls_18 h)
theorem mx_27 : mi_mx tb_P 27 = 3 := rfl
noncomputable def fn_Reader_take_90 (S : wd_S) : Option (Int32 × wd_S) :=
  some (S.1 47 5, S)
set_option maxRecDepth 100000 in
theorem sn_Reader_take_90 {L : Nat} {xs : Nat → Int32} {S : wd_S} {x : Int32} {S' : wd_S} (h : fn_Reader_take_90  S = some (x, S')) : go_r tb_P L xs 205 27 90 [(0, .ref 47)] [] (wd_k S) (.inl (some (.int x)), wd_k S') := by
  unfold fn_Reader_take_90 at h
  refine bk_b (q := (91, [(0, .ref 47)], [.ref 47])) tb_c_27_1 mx_27 1 rfl ?_
  refine bk_gi tb_c_27_1 rfl rfl (ci := 4) (k := 5) rfl rfl rfl ?_
  cases h
  exact bk_t tb_c_27_1 rfl rfl
noncomputable def fn_Reader_take_79 (S : wd_S) : Option (Int32 × wd_S) :=
  (if (S.1 47 5) = 0 then
    (wd_d (fn_Reader_leadCalls  S) fun S23 =>
    fn_Reader_take_90  S23)
  else
    fn_Reader_take_90  S)
set_option maxRecDepth 100000 in
theorem sn_Reader_take_79 {L : Nat} {xs : Nat → Int32} {S : wd_S} {x : Int32} {S' : wd_S} (h : fn_Reader_take_79  S = some (x, S')) : go_r tb_P L xs 205 27 79 [(0, .ref 47)] [] (wd_k S) (.inl (some (.int x)), wd_k S') := by
  unfold fn_Reader_take_79 at h
  refine bk_b (q := (80, [(0, .ref 47)], [.ref 47])) tb_c_27_1 mx_27 1 rfl ?_
  refine bk_gi tb_c_27_1 rfl rfl (ci := 4) (k := 5) rfl rfl rfl ?_
  by_cases g22 : (S.1 47 5) = 0
  · rw [if_pos g22] at h
    refine bk_zf tb_c_27_1 rfl (pc' := 86) rfl (t := 90) rfl (cm_ne_f g22) ?_
    refine bk_b (q := (87, [(0, .ref 47)], [.ref 47])) tb_c_27_1 mx_27 1 rfl ?_
    obtain ⟨S23, c25, h⟩ := wd_dx h
    refine bk_kv tb_c_27_1 rfl rfl rfl rfl rfl (ci := 4) rfl rfl (ev_up (Nat.le_of_ble_eq_true rfl) (sn_Reader_leadCalls c25)) ?_
    exact go_lv (ls_sc rfl rfl ls_nil) (sn_Reader_take_90 h)
  · rw [if_neg g22] at h
    refine bk_zt tb_c_27_1 rfl (pc' := 90) rfl (cm_ne_t g22) ?_
    exact go_lv (ls_sc rfl rfl ls_nil) (sn_Reader_take_90 h)
noncomputable def fn_Reader_take_53 : Nat → Int32 → wd_S → Option (Int32 × wd_S)
  | 0, _, _ => none
  | n + 1, l2, S =>
    (if l2 < (1500 : Int32) then
      (if (S.1 47 4) = (20 : Int32) then
        fn_Reader_take_79  S
      else
        (wd_d (fn_Reader_takeFunction  S) fun S27 =>
        fn_Reader_take_53 n (l2 + (1 : Int32)) S27))
    else
      fn_Reader_take_79  S)
set_option maxRecDepth 100000 in
theorem sn_Reader_take_53 {L : Nat} {xs : Nat → Int32} : ∀ (n : Nat) {l2 : Int32} {S : wd_S} {x : Int32} {S' : wd_S}, fn_Reader_take_53 n l2 S = some (x, S') → go_r tb_P L xs 205 27 53 [(0, .ref 47), (2, .int l2)] [] (wd_k S) (.inl (some (.int x)), wd_k S') := by
  intro n
  induction n with
  | zero => intro l2 S x S'  h; cases h
  | succ n ih =>
    intro l2 S x S'  h
    rw [fn_Reader_take_53] at h
    refine bk_b (q := (57, [(0, .ref 47), (2, .int l2)], [.int (1500 : Int32), .int l2])) tb_c_27_0 mx_27 2 rfl ?_
    by_cases g21 : l2 < (1500 : Int32)
    · rw [if_pos g21] at h
      refine bk_jf tb_c_27_0 rfl (pc' := 60) rfl (t := 79) rfl (cm_ge_f g21) ?_
      refine bk_b (q := (61, [(0, .ref 47), (2, .int l2)], [.ref 47])) tb_c_27_0 mx_27 1 rfl ?_
      refine bk_gi tb_c_27_0 rfl rfl (ci := 4) (k := 4) rfl rfl rfl ?_
      refine bk_b (q := (66, [(0, .ref 47), (2, .int l2)], [.int (20 : Int32), .int (S.1 47 4)])) tb_c_27_0 mx_27 1 rfl ?_
      by_cases g26 : (S.1 47 4) = (20 : Int32)
      · rw [if_pos g26] at h
        refine bk_jt tb_c_27_0 rfl (pc' := 79) rfl (cm_eq_t g26) ?_
        exact go_lv (ls_sc rfl rfl ls_nil) (sn_Reader_take_79 h)
      · rw [if_neg g26] at h
        refine bk_jf tb_c_27_0 rfl (pc' := 69) rfl (t := 79) rfl (cm_eq_f g26) ?_
        refine bk_b (q := (70, [(0, .ref 47), (2, .int l2)], [.ref 47])) tb_c_27_0 mx_27 1 rfl ?_
        obtain ⟨S27, c29, h⟩ := wd_dx h
        refine bk_kv tb_c_27_0 rfl rfl rfl rfl rfl (ci := 4) rfl rfl (ev_up (Nat.le_of_ble_eq_true rfl) (sn_Reader_takeFunction c29)) ?_
        refine bk_b (q := (53, [(2, .int (l2 + (1 : Int32))), (0, .ref 47)], [])) tb_c_27_0 mx_27 2 rfl ?_
        exact go_lv (ls_sc rfl rfl (ls_sc rfl rfl ls_nil)) (ih h)
    · rw [if_neg g21] at h
      refine bk_jt tb_c_27_0 rfl (pc' := 79) rfl (cm_ge_t g21) ?_
      exact go_lv (ls_sc rfl rfl ls_nil) (sn_Reader_take_79 h)
/-- Specialiser$Reader.take(LSpecialiser$Bodies;)I -/
noncomputable def fn_Reader_take (p1 : Nat) (S : wd_S) : Option (Int32 × wd_S) :=
  (wd_b (wd_r S 47 1 p1) fun S1 =>
  (wd_c (fn_Bodies_trees p1 S1) fun x3 S2 => if tp_t x3 = (0, 8) then
    (wd_b (wd_r S2 47 2 x3) fun S6 =>
    (if tp_t (S6.2.2.1 47 1) = (0, 0) then
      (wd_d (fn_Bodies_clear (S6.2.2.1 47 1) S6) fun S8 =>
      (wd_b (wd_i S8 47 3 (0 : Int32)) fun S11 =>
      (wd_c (fn_Tokens_kind (0 : Int32) S11) fun x13 S12 =>
      (wd_b (wd_i S12 47 4 x13) fun S15 =>
      (wd_b (wd_i S15 47 5 (0 : Int32)) fun S16 =>
      (wd_b (wd_i S16 47 12 (-1 : Int32)) fun S17 =>
      (wd_d (fn_Reader_takeFunction  S17) fun S18 =>
      fn_Reader_take_53 wd_F (0 : Int32) S18)))))))
    else none))
  else none))
set_option maxRecDepth 100000 in
theorem sn_Reader_take {L : Nat} {xs : Nat → Int32} {p1 : Nat} {S : wd_S} {x : Int32} {S' : wd_S} (hp1 : tp_t p1 = (0, 0)) (h : fn_Reader_take p1 S = some (x, S')) : ev_r tb_P L xs (205 + 1) 27 [.ref 47, .ref p1] (wd_k S) (.inl (some (.int x)), wd_k S') := by
  unfold fn_Reader_take at h
  refine ev_of (Nat.le_of_ble_eq_true rfl) ?_
  show go_r tb_P L xs 205 27 0 [(0, .ref 47), (1, .ref p1)] [] (wd_k S) (.inl (some (.int x)), wd_k S')
  refine bk_b (q := (2, [(0, .ref 47), (1, .ref p1)], [.ref p1, .ref 47])) tb_c_27_0 mx_27 2 rfl ?_
  obtain ⟨S1, eS1, h⟩ := wd_bx h
  refine bk_pr tb_c_27_0 rfl rfl (ci := 4) (k := 1) rfl rfl rfl rfl ?_
  rw [eS1]
  refine bk_b (q := (7, [(0, .ref 47), (1, .ref p1)], [.ref p1, .ref 47])) tb_c_27_0 mx_27 2 rfl ?_
  obtain ⟨x3, S2, c4, h⟩ := wd_cx h
  by_cases g5 : tp_t x3 = (0, 8)
  · rw [if_pos g5] at h
    refine bk_kv tb_c_27_0 rfl rfl rfl rfl rfl (ci := 0) hp1 rfl (ev_up (Nat.le_of_ble_eq_true rfl) (sn_Bodies_trees hp1 c4)) ?_
    obtain ⟨S6, eS6, h⟩ := wd_bx h
    refine bk_pr tb_c_27_0 rfl rfl (ci := 4) (k := 2) rfl rfl rfl rfl ?_
    rw [eS6]
    refine bk_b (q := (14, [(0, .ref 47), (1, .ref p1)], [.ref 47])) tb_c_27_0 mx_27 1 rfl ?_
    refine bk_gm tb_c_27_0 rfl rfl (ci := 4) (k := 1) rfl rfl rfl ?_
    by_cases g7 : tp_t (S6.2.2.1 47 1) = (0, 0)
    · rw [if_pos g7] at h
      obtain ⟨S8, c10, h⟩ := wd_dx h
      refine bk_kv tb_c_27_0 rfl rfl rfl rfl rfl (ci := 0) g7 rfl (ev_up (Nat.le_of_ble_eq_true rfl) (sn_Bodies_clear g7 c10)) ?_
      refine bk_b (q := (22, [(0, .ref 47), (1, .ref p1)], [.int (0 : Int32), .ref 47])) tb_c_27_0 mx_27 2 rfl ?_
      obtain ⟨S11, eS11, h⟩ := wd_bx h
      refine bk_pi tb_c_27_0 rfl rfl (ci := 4) (k := 3) rfl rfl rfl rfl ?_
      rw [eS11]
      refine bk_b (q := (27, [(0, .ref 47), (1, .ref p1)], [.ref 47, .ref 47])) tb_c_27_0 mx_27 2 rfl ?_
      refine bk_gc tb_c_27_0 rfl rfl (ci := 4) (k := 0) rfl rfl rfl ?_
      refine bk_b (q := (31, [(0, .ref 47), (1, .ref p1)], [.int (0 : Int32), .ref 4, .ref 47])) tb_c_27_0 mx_27 1 rfl ?_
      obtain ⟨x13, S12, c14, h⟩ := wd_cx h
      refine bk_kv tb_c_27_0 rfl rfl rfl rfl rfl (ci := 7) rfl rfl (ev_up (Nat.le_of_ble_eq_true rfl) (sn_Tokens_kind c14)) ?_
      obtain ⟨S15, eS15, h⟩ := wd_bx h
      refine bk_pi tb_c_27_0 rfl rfl (ci := 4) (k := 4) rfl rfl rfl rfl ?_
      rw [eS15]
      refine bk_b (q := (39, [(0, .ref 47), (1, .ref p1)], [.int (0 : Int32), .ref 47])) tb_c_27_0 mx_27 2 rfl ?_
      obtain ⟨S16, eS16, h⟩ := wd_bx h
      refine bk_pi tb_c_27_0 rfl rfl (ci := 4) (k := 5) rfl rfl rfl rfl ?_
      rw [eS16]
      refine bk_b (q := (44, [(0, .ref 47), (1, .ref p1)], [.int (-1 : Int32), .ref 47])) tb_c_27_0 mx_27 2 rfl ?_
      obtain ⟨S17, eS17, h⟩ := wd_bx h
      refine bk_pi tb_c_27_0 rfl rfl (ci := 4) (k := 12) rfl rfl rfl rfl ?_
      rw [eS17]
      refine bk_b (q := (48, [(0, .ref 47), (1, .ref p1)], [.ref 47])) tb_c_27_0 mx_27 1 rfl ?_
      obtain ⟨S18, c20, h⟩ := wd_dx h
      refine bk_kv tb_c_27_0 rfl rfl rfl rfl rfl (ci := 4) rfl rfl (ev_up (Nat.le_of_ble_eq_true rfl) (sn_Reader_takeFunction c20)) ?_
      refine bk_b (q := (53, [(2, .int (0 : Int32)), (0, .ref 47), (1, .ref p1)], [])) tb_c_27_0 mx_27 2 rfl ?_
      exact go_lv (ls_sc rfl rfl (ls_sc rfl rfl ls_nil)) (sn_Reader_take_53 wd_F h)
    · rw [if_neg g7] at h; cases h
  · rw [if_neg g5] at h; cases h
theorem mx_67 : mi_mx tb_P 67 = 2 := rfl
noncomputable def fn_Tokens_start_23 (s0 : Int32) (S : wd_S) : Option (Int32 × wd_S) :=
  some (s0, S)
set_option maxRecDepth 100000 in
theorem sn_Tokens_start_23 {L : Nat} {xs : Nat → Int32} {s0 : Int32} {S : wd_S} {x : Int32} {S' : wd_S} (h : fn_Tokens_start_23 s0 S = some (x, S')) : go_r tb_P L xs 1 67 23 [] [.int s0] (wd_k S) (.inl (some (.int x)), wd_k S') := by
  unfold fn_Tokens_start_23 at h
  cases h
  exact bk_t tb_c_67_0 rfl rfl
/-- Specialiser$Tokens.start(I)I -/
noncomputable def fn_Tokens_start (p1 : Int32) (S : wd_S) : Option (Int32 × wd_S) :=
  (if p1 < (S.1 4 5) then
    (wd_c (fn_Row_at 7 p1 S) fun x3 S2 =>
    fn_Tokens_start_23 x3 S2)
  else
    fn_Tokens_start_23 (S.1 4 4) S)
set_option maxRecDepth 100000 in
theorem sn_Tokens_start {L : Nat} {xs : Nat → Int32} {p1 : Int32} {S : wd_S} {x : Int32} {S' : wd_S} (h : fn_Tokens_start p1 S = some (x, S')) : ev_r tb_P L xs (1 + 1) 67 [.ref 4, .int p1] (wd_k S) (.inl (some (.int x)), wd_k S') := by
  unfold fn_Tokens_start at h
  refine ev_of (Nat.le_of_ble_eq_true rfl) ?_
  show go_r tb_P L xs 1 67 0 [(0, .ref 4), (1, .int p1)] [] (wd_k S) (.inl (some (.int x)), wd_k S')
  refine bk_b (q := (2, [(0, .ref 4), (1, .int p1)], [.ref 4, .int p1])) tb_c_67_0 mx_67 2 rfl ?_
  refine bk_gi tb_c_67_0 rfl rfl (ci := 7) (k := 5) rfl rfl rfl ?_
  by_cases g1 : p1 < (S.1 4 5)
  · rw [if_pos g1] at h
    refine bk_jf tb_c_67_0 rfl (pc' := 8) rfl (t := 19) rfl (cm_ge_f g1) ?_
    refine bk_b (q := (9, [(0, .ref 4), (1, .int p1)], [.ref 4])) tb_c_67_0 mx_67 1 rfl ?_
    refine bk_gc tb_c_67_0 rfl rfl (ci := 7) (k := 2) rfl rfl rfl ?_
    refine bk_b (q := (13, [(0, .ref 4), (1, .int p1)], [.int p1, .ref 7])) tb_c_67_0 mx_67 1 rfl ?_
    obtain ⟨x3, S2, c4, h⟩ := wd_cx h
    refine bk_kv tb_c_67_0 rfl rfl rfl rfl rfl (ci := 5) rfl rfl (ev_up (Nat.le_of_ble_eq_true rfl) (sn_Row_at rfl c4)) ?_
    refine bk_b (q := (23, [(0, .ref 4), (1, .int p1)], [.int x3])) tb_c_67_0 mx_67 1 rfl ?_
    exact go_lv ls_nil (sn_Tokens_start_23 h)
  · rw [if_neg g1] at h
    refine bk_jt tb_c_67_0 rfl (pc' := 19) rfl (cm_ge_t g1) ?_
    refine bk_b (q := (20, [(0, .ref 4), (1, .int p1)], [.ref 4])) tb_c_67_0 mx_67 1 rfl ?_
    refine bk_gi tb_c_67_0 rfl rfl (ci := 7) (k := 4) rfl rfl rfl ?_
    exact go_lv ls_nil (sn_Tokens_start_23 h)
theorem mx_66 : mi_mx tb_P 66 = 1 := rfl
noncomputable def fn_Reader_faultPlace_22 (s0 : Int32) (S : wd_S) : Option (Int32 × wd_S) :=
  some (s0, S)
set_option maxRecDepth 100000 in
theorem sn_Reader_faultPlace_22 {L : Nat} {xs : Nat → Int32} {s0 : Int32} {S : wd_S} {x : Int32} {S' : wd_S} (h : fn_Reader_faultPlace_22 s0 S = some (x, S')) : go_r tb_P L xs 2 66 22 [] [.int s0] (wd_k S) (.inl (some (.int x)), wd_k S') := by
  unfold fn_Reader_faultPlace_22 at h
  cases h
  exact bk_t tb_c_66_0 rfl rfl
/-- Specialiser$Reader.faultPlace()I -/
noncomputable def fn_Reader_faultPlace (S : wd_S) : Option (Int32 × wd_S) :=
  (if (S.1 47 5) = 0 then
    fn_Reader_faultPlace_22 (-1 : Int32) S
  else
    (wd_c (fn_Tokens_start (S.1 47 6) S) fun x3 S2 =>
    fn_Reader_faultPlace_22 x3 S2))
set_option maxRecDepth 100000 in
theorem sn_Reader_faultPlace {L : Nat} {xs : Nat → Int32} {S : wd_S} {x : Int32} {S' : wd_S} (h : fn_Reader_faultPlace  S = some (x, S')) : ev_r tb_P L xs (2 + 1) 66 [.ref 47] (wd_k S) (.inl (some (.int x)), wd_k S') := by
  unfold fn_Reader_faultPlace at h
  refine ev_of (Nat.le_of_ble_eq_true rfl) ?_
  show go_r tb_P L xs 2 66 0 [(0, .ref 47)] [] (wd_k S) (.inl (some (.int x)), wd_k S')
  refine bk_b (q := (1, [(0, .ref 47)], [.ref 47])) tb_c_66_0 mx_66 1 rfl ?_
  refine bk_gi tb_c_66_0 rfl rfl (ci := 4) (k := 5) rfl rfl rfl ?_
  by_cases g1 : (S.1 47 5) = 0
  · rw [if_pos g1] at h
    refine bk_zf tb_c_66_0 rfl (pc' := 7) rfl (t := 11) rfl (cm_ne_f g1) ?_
    refine bk_b (q := (22, [(0, .ref 47)], [.int (-1 : Int32)])) tb_c_66_0 mx_66 2 rfl ?_
    exact go_lv ls_nil (sn_Reader_faultPlace_22 h)
  · rw [if_neg g1] at h
    refine bk_zt tb_c_66_0 rfl (pc' := 11) rfl (cm_ne_t g1) ?_
    refine bk_b (q := (12, [(0, .ref 47)], [.ref 47])) tb_c_66_0 mx_66 1 rfl ?_
    refine bk_gc tb_c_66_0 rfl rfl (ci := 4) (k := 0) rfl rfl rfl ?_
    refine bk_b (q := (16, [(0, .ref 47)], [.ref 47, .ref 4])) tb_c_66_0 mx_66 1 rfl ?_
    refine bk_gi tb_c_66_0 rfl rfl (ci := 4) (k := 6) rfl rfl rfl ?_
    obtain ⟨x3, S2, c4, h⟩ := wd_cx h
    refine bk_kv tb_c_66_0 rfl rfl rfl rfl rfl (ci := 7) rfl rfl (ev_up (Nat.le_of_ble_eq_true rfl) (sn_Tokens_start c4)) ?_
    exact go_lv ls_nil (sn_Reader_faultPlace_22 h)
theorem mx_68 : mi_mx tb_P 68 = 1 := rfl
/-- Specialiser$Versions.clear()V -/
noncomputable def fn_Versions_clear (p0 : Nat) (S : wd_S) : Option wd_S :=
  (wd_d (fn_Bodies_clear (p0 + 1) S) fun S1 =>
  some S1)
set_option maxRecDepth 100000 in
theorem sn_Versions_clear {L : Nat} {xs : Nat → Int32} {p0 : Nat} {S : wd_S} {S' : wd_S} (hp0 : tp_t p0 = (0, 9)) (h : fn_Versions_clear p0 S = some S') : ev_r tb_P L xs (2 + 1) 68 [.ref p0] (wd_k S) (.inl none, wd_k S') := by
  unfold fn_Versions_clear at h
  refine ev_of (Nat.le_of_ble_eq_true rfl) ?_
  show go_r tb_P L xs 2 68 0 [(0, .ref p0)] [] (wd_k S) (.inl none, wd_k S')
  refine bk_b (q := (1, [(0, .ref p0)], [.ref p0])) tb_c_68_0 mx_68 1 rfl ?_
  refine bk_go tb_c_68_0 rfl rfl (ci := 9) (k := 0) rfl hp0 rfl ?_
  obtain ⟨S1, c3, h⟩ := wd_dx h
  refine bk_kv tb_c_68_0 rfl rfl rfl rfl rfl (ci := 0) (tp_9_0 hp0) rfl (ev_up (Nat.le_of_ble_eq_true rfl) (sn_Bodies_clear (tp_9_0 hp0) c3)) ?_
  cases h
  exact bk_t tb_c_68_0 rfl rfl
theorem mx_14 : mi_mx tb_P 14 = 3 := rfl
/-- Specialiser.read()I -/
noncomputable def fn_Sp_read (S : wd_S) : Option (Int32 × wd_S) :=
  (wd_d (fn_Tokens_scan (S.1 1 1) S) fun S1 =>
  (wd_b (wd_i S1 1 1 (0 : Int32)) fun S4 =>
  (if tp_t (S4.2.2.1 1 6) = (0, 0) then
    (wd_c (fn_Reader_take (S4.2.2.1 1 6) S4) fun x7 S6 =>
    (wd_c (fn_Reader_faultPlace  S6) fun x10 S9 =>
    (wd_b (wd_i S9 1 2 x10) fun S12 =>
    (if x7 = 0 then
      (if tp_t (S12.2.2.1 1 5) = (0, 0) then
        (if tp_t (S12.2.2.1 1 6) = (0, 0) then
          (wd_b (wd_r S12 1 5 (S12.2.2.1 1 6)) fun S16 =>
          (wd_b (wd_r S16 1 6 (S12.2.2.1 1 5)) fun S17 =>
          (if tp_t (S17.2.2.1 1 7) = (0, 9) then
            (wd_d (fn_Versions_clear (S17.2.2.1 1 7) S17) fun S19 =>
            (if tp_t (S19.2.2.1 1 5) = (0, 0) then
              (wd_c (fn_Bodies_count (S19.2.2.1 1 5) S19) fun x24 S23 =>
              some (x24, S23))
            else none))
          else none)))
        else none)
      else none)
    else
      some ((-x7), S12)))))
  else none)))
set_option maxRecDepth 100000 in
theorem sn_Sp_read {L : Nat} {xs : Nat → Int32} {S : wd_S} {x : Int32} {S' : wd_S} (h : fn_Sp_read  S = some (x, S')) : ev_r tb_P L xs (206 + 1) 14 [.ref 1] (wd_k S) (.inl (some (.int x)), wd_k S') := by
  unfold fn_Sp_read at h
  refine ev_of (Nat.le_of_ble_eq_true rfl) ?_
  show go_r tb_P L xs 206 14 0 [(0, .ref 1)] [] (wd_k S) (.inl (some (.int x)), wd_k S')
  refine bk_b (q := (1, [(0, .ref 1)], [.ref 1])) tb_c_14_0 mx_14 1 rfl ?_
  refine bk_gc tb_c_14_0 rfl rfl (ci := 10) (k := 3) rfl rfl rfl ?_
  refine bk_b (q := (5, [(0, .ref 1)], [.ref 1, .ref 4])) tb_c_14_0 mx_14 1 rfl ?_
  refine bk_gi tb_c_14_0 rfl rfl (ci := 10) (k := 1) rfl rfl rfl ?_
  obtain ⟨S1, c3, h⟩ := wd_dx h
  refine bk_kv tb_c_14_0 rfl rfl rfl rfl rfl (ci := 7) rfl rfl (ev_up (Nat.le_of_ble_eq_true rfl) (sn_Tokens_scan c3)) ?_
  refine bk_b (q := (13, [(0, .ref 1)], [.int (0 : Int32), .ref 1])) tb_c_14_0 mx_14 2 rfl ?_
  obtain ⟨S4, eS4, h⟩ := wd_bx h
  refine bk_pi tb_c_14_0 rfl rfl (ci := 10) (k := 1) rfl rfl rfl rfl ?_
  rw [eS4]
  refine bk_b (q := (17, [(0, .ref 1)], [.ref 1])) tb_c_14_0 mx_14 1 rfl ?_
  refine bk_gc tb_c_14_0 rfl rfl (ci := 10) (k := 4) rfl rfl rfl ?_
  refine bk_b (q := (21, [(0, .ref 1)], [.ref 1, .ref 47])) tb_c_14_0 mx_14 1 rfl ?_
  refine bk_gm tb_c_14_0 rfl rfl (ci := 10) (k := 6) rfl rfl rfl ?_
  by_cases g5 : tp_t (S4.2.2.1 1 6) = (0, 0)
  · rw [if_pos g5] at h
    obtain ⟨x7, S6, c8, h⟩ := wd_cx h
    refine bk_kv tb_c_14_0 rfl rfl rfl rfl rfl (ci := 4) rfl rfl (ev_up (Nat.le_of_ble_eq_true rfl) (sn_Reader_take g5 c8)) ?_
    refine bk_b (q := (30, [(1, .int x7), (0, .ref 1)], [.ref 1, .ref 1])) tb_c_14_0 mx_14 3 rfl ?_
    refine bk_gc tb_c_14_0 rfl rfl (ci := 10) (k := 4) rfl rfl rfl ?_
    obtain ⟨x10, S9, c11, h⟩ := wd_cx h
    refine bk_kv tb_c_14_0 rfl rfl rfl rfl rfl (ci := 4) rfl rfl (ev_up (Nat.le_of_ble_eq_true rfl) (sn_Reader_faultPlace c11)) ?_
    obtain ⟨S12, eS12, h⟩ := wd_bx h
    refine bk_pi tb_c_14_0 rfl rfl (ci := 10) (k := 2) rfl rfl rfl rfl ?_
    rw [eS12]
    refine bk_b (q := (40, [(1, .int x7), (0, .ref 1)], [.int x7])) tb_c_14_0 mx_14 1 rfl ?_
    by_cases g13 : x7 = 0
    · rw [if_pos g13] at h
      refine bk_zt tb_c_14_0 rfl (pc' := 46) rfl (cm_eq_t g13) ?_
      refine bk_b (q := (47, [(1, .int x7), (0, .ref 1)], [.ref 1])) tb_c_14_0 mx_14 1 rfl ?_
      refine bk_gm tb_c_14_0 rfl rfl (ci := 10) (k := 5) rfl rfl rfl ?_
      by_cases g14 : tp_t (S12.2.2.1 1 5) = (0, 0)
      · rw [if_pos g14] at h
        refine bk_b (q := (53, [(2, .ref (S12.2.2.1 1 5)), (1, .int x7), (0, .ref 1)], [.ref 1, .ref 1])) tb_c_14_0 mx_14 3 rfl ?_
        refine bk_gm tb_c_14_0 rfl rfl (ci := 10) (k := 6) rfl rfl rfl ?_
        by_cases g15 : tp_t (S12.2.2.1 1 6) = (0, 0)
        · rw [if_pos g15] at h
          obtain ⟨S16, eS16, h⟩ := wd_bx h
          refine bk_pr tb_c_14_0 rfl rfl (ci := 10) (k := 5) rfl rfl rfl rfl ?_
          rw [eS16]
          refine bk_b (q := (61, [(2, .ref (S12.2.2.1 1 5)), (1, .int x7), (0, .ref 1)], [.ref (S12.2.2.1 1 5), .ref 1])) tb_c_14_0 mx_14 2 rfl ?_
          obtain ⟨S17, eS17, h⟩ := wd_bx h
          refine bk_pr tb_c_14_0 rfl rfl (ci := 10) (k := 6) rfl rfl rfl rfl ?_
          rw [eS17]
          refine bk_b (q := (65, [(2, .ref (S12.2.2.1 1 5)), (1, .int x7), (0, .ref 1)], [.ref 1])) tb_c_14_0 mx_14 1 rfl ?_
          refine bk_gm tb_c_14_0 rfl rfl (ci := 10) (k := 7) rfl rfl rfl ?_
          by_cases g18 : tp_t (S17.2.2.1 1 7) = (0, 9)
          · rw [if_pos g18] at h
            obtain ⟨S19, c21, h⟩ := wd_dx h
            refine bk_kv tb_c_14_0 rfl rfl rfl rfl rfl (ci := 9) g18 rfl (ev_up (Nat.le_of_ble_eq_true rfl) (sn_Versions_clear g18 c21)) ?_
            refine bk_b (q := (72, [(2, .ref (S12.2.2.1 1 5)), (1, .int x7), (0, .ref 1)], [.ref 1])) tb_c_14_0 mx_14 1 rfl ?_
            refine bk_gm tb_c_14_0 rfl rfl (ci := 10) (k := 5) rfl rfl rfl ?_
            by_cases g22 : tp_t (S19.2.2.1 1 5) = (0, 0)
            · rw [if_pos g22] at h
              obtain ⟨x24, S23, c25, h⟩ := wd_cx h
              refine bk_kv tb_c_14_0 rfl rfl rfl rfl rfl (ci := 0) g22 rfl (ev_up (Nat.le_of_ble_eq_true rfl) (sn_Bodies_count g22 c25)) ?_
              cases h
              exact bk_t tb_c_14_1 rfl rfl
            · rw [if_neg g22] at h; cases h
          · rw [if_neg g18] at h; cases h
        · rw [if_neg g15] at h; cases h
      · rw [if_neg g14] at h; cases h
    · rw [if_neg g13] at h
      refine bk_zf tb_c_14_0 rfl (pc' := 43) rfl (t := 46) rfl (cm_eq_f g13) ?_
      refine bk_b (q := (45, [(1, .int x7), (0, .ref 1)], [.int (-x7)])) tb_c_14_0 mx_14 2 rfl ?_
      cases h
      exact bk_t tb_c_14_0 rfl rfl
  · rw [if_neg g5] at h; cases h
theorem mx_69 : mi_mx tb_P 69 = 1 := rfl
/-- Specialiser.place()I -/
noncomputable def fn_Sp_place (S : wd_S) : Option (Int32 × wd_S) :=
  some (S.1 1 2, S)
set_option maxRecDepth 100000 in
theorem sn_Sp_place {L : Nat} {xs : Nat → Int32} {S : wd_S} {x : Int32} {S' : wd_S} (h : fn_Sp_place  S = some (x, S')) : ev_r tb_P L xs (0 + 1) 69 [.ref 1] (wd_k S) (.inl (some (.int x)), wd_k S') := by
  unfold fn_Sp_place at h
  refine ev_of (Nat.le_of_ble_eq_true rfl) ?_
  show go_r tb_P L xs 0 69 0 [(0, .ref 1)] [] (wd_k S) (.inl (some (.int x)), wd_k S')
  refine bk_b (q := (1, [(0, .ref 1)], [.ref 1])) tb_c_69_0 mx_69 1 rfl ?_
  refine bk_gi tb_c_69_0 rfl rfl (ci := 10) (k := 2) rfl rfl rfl ?_
  cases h
  exact bk_t tb_c_69_0 rfl rfl
theorem mx_71 : mi_mx tb_P 71 = 3 := rfl
noncomputable def fn_Sp_feedFour_3 : Nat → Int32 → Int32 → wd_S → Option wd_S
  | 0, _, _, _ => none
  | n + 1, l1, l2, S =>
    (if l2 < 0 then
      some S
    else
      (wd_d (fn_Row_put 2 (S.1 1 1) ((((l1).toUInt32 >>> ((l2).toUInt32 &&& Int32.toUInt32 31)).toInt32) &&& (255 : Int32)) S) fun S2 =>
      (wd_b (wd_i S2 1 1 ((S2.1 1 1) + (1 : Int32))) fun S5 =>
      fn_Sp_feedFour_3 n l1 (l2 + (-8 : Int32)) S5)))
set_option maxRecDepth 100000 in
theorem sn_Sp_feedFour_3 {L : Nat} {xs : Nat → Int32} : ∀ (n : Nat) {l1 : Int32} {l2 : Int32} {S : wd_S} {S' : wd_S}, fn_Sp_feedFour_3 n l1 l2 S = some S' → go_r tb_P L xs 1 71 3 [(0, .ref 1), (1, .int l1), (2, .int l2)] [] (wd_k S) (.inl none, wd_k S') := by
  intro n
  induction n with
  | zero => intro l1 l2 S S'  h; cases h
  | succ n ih =>
    intro l1 l2 S S'  h
    rw [fn_Sp_feedFour_3] at h
    refine bk_b (q := (4, [(0, .ref 1), (1, .int l1), (2, .int l2)], [.int l2])) tb_c_71_0 mx_71 1 rfl ?_
    by_cases g1 : l2 < 0
    · rw [if_pos g1] at h
      refine bk_zt tb_c_71_0 rfl (pc' := 41) rfl (cm_lt_t g1) ?_
      cases h
      exact bk_t tb_c_71_0 rfl rfl
    · rw [if_neg g1] at h
      refine bk_zf tb_c_71_0 rfl (pc' := 7) rfl (t := 41) rfl (cm_lt_f g1) ?_
      refine bk_b (q := (8, [(0, .ref 1), (1, .int l1), (2, .int l2)], [.ref 1])) tb_c_71_0 mx_71 1 rfl ?_
      refine bk_gc tb_c_71_0 rfl rfl (ci := 10) (k := 0) rfl rfl rfl ?_
      refine bk_b (q := (12, [(0, .ref 1), (1, .int l1), (2, .int l2)], [.ref 1, .ref 2])) tb_c_71_0 mx_71 1 rfl ?_
      refine bk_gi tb_c_71_0 rfl rfl (ci := 10) (k := 1) rfl rfl rfl ?_
      refine bk_b (q := (22, [(0, .ref 1), (1, .int l1), (2, .int l2)], [.int ((((l1).toUInt32 >>> ((l2).toUInt32 &&& Int32.toUInt32 31)).toInt32) &&& (255 : Int32)), .int (S.1 1 1), .ref 2])) tb_c_71_0 mx_71 5 rfl ?_
      obtain ⟨S2, c4, h⟩ := wd_dx h
      refine bk_kv tb_c_71_0 rfl rfl rfl rfl rfl (ci := 5) rfl rfl (ev_up (Nat.le_of_ble_eq_true rfl) (sn_Row_put rfl c4)) ?_
      refine bk_b (q := (27, [(0, .ref 1), (1, .int l1), (2, .int l2)], [.ref 1, .ref 1])) tb_c_71_0 mx_71 2 rfl ?_
      refine bk_gi tb_c_71_0 rfl rfl (ci := 10) (k := 1) rfl rfl rfl ?_
      refine bk_b (q := (32, [(0, .ref 1), (1, .int l1), (2, .int l2)], [.int ((S2.1 1 1) + (1 : Int32)), .ref 1])) tb_c_71_0 mx_71 2 rfl ?_
      obtain ⟨S5, eS5, h⟩ := wd_bx h
      refine bk_pi tb_c_71_0 rfl rfl (ci := 10) (k := 1) rfl rfl rfl rfl ?_
      rw [eS5]
      refine bk_b (q := (3, [(2, .int (l2 + (-8 : Int32))), (0, .ref 1), (1, .int l1)], [])) tb_c_71_0 mx_71 2 rfl ?_
      exact go_lv (ls_sc rfl rfl (ls_sc rfl rfl (ls_sc rfl rfl ls_nil))) (ih h)
/-- Specialiser.feedFour(I)V -/
noncomputable def fn_Sp_feedFour (p1 : Int32) (S : wd_S) : Option wd_S :=
  fn_Sp_feedFour_3 wd_F p1 (24 : Int32) S
set_option maxRecDepth 100000 in
theorem sn_Sp_feedFour {L : Nat} {xs : Nat → Int32} {p1 : Int32} {S : wd_S} {S' : wd_S} (h : fn_Sp_feedFour p1 S = some S') : ev_r tb_P L xs (1 + 1) 71 [.ref 1, .int p1] (wd_k S) (.inl none, wd_k S') := by
  unfold fn_Sp_feedFour at h
  refine ev_of (Nat.le_of_ble_eq_true rfl) ?_
  show go_r tb_P L xs 1 71 0 [(0, .ref 1), (1, .int p1)] [] (wd_k S) (.inl none, wd_k S')
  refine bk_b (q := (3, [(2, .int (24 : Int32)), (0, .ref 1), (1, .int p1)], [])) tb_c_71_0 mx_71 2 rfl ?_
  exact go_lv (ls_sc rfl rfl (ls_sc rfl rfl (ls_sc rfl rfl ls_nil))) (sn_Sp_feedFour_3 wd_F h)
