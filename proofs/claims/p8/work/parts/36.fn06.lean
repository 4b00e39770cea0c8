/-! Methods as functions: printed by wip/whole/gen_fn.py. -/
theorem mx_95 : mi_mx tb_P 95 = 3 := rfl
noncomputable def fn_Trees_part_25 (s0 : Int32) (S : wd_S) : Option (Int32 × wd_S) :=
  some (s0, S)
set_option maxRecDepth 100000 in
theorem sn_Trees_part_25 {L : Nat} {xs : Nat → Int32} {s0 : Int32} {S : wd_S} {x : Int32} {S' : wd_S} (h : fn_Trees_part_25 s0 S = some (x, S')) : go_r tb_P L xs 1 95 25 [] [.int s0] (wd_k S) (.inl (some (.int x)), wd_k S') := by
  unfold fn_Trees_part_25 at h
  cases h
  exact bk_t tb_c_95_0 rfl rfl
noncomputable def fn_Trees_part_24 (S : wd_S) : Option (Int32 × wd_S) :=
  fn_Trees_part_25 (0 : Int32) S
set_option maxRecDepth 100000 in
theorem sn_Trees_part_24 {L : Nat} {xs : Nat → Int32} {S : wd_S} {x : Int32} {S' : wd_S} (h : fn_Trees_part_24  S = some (x, S')) : go_r tb_P L xs 1 95 24 [] [] (wd_k S) (.inl (some (.int x)), wd_k S') := by
  unfold fn_Trees_part_24 at h
  refine bk_b (q := (25, [], [.int (0 : Int32)])) tb_c_95_0 mx_95 1 rfl ?_
  exact go_lv ls_nil (sn_Trees_part_25 h)
/-- Specialiser$Trees.part(II)I -/
noncomputable def fn_Trees_part (p0 : Nat) (p1 : Int32) (p2 : Int32) (S : wd_S) : Option (Int32 × wd_S) :=
  (if p2 < 0 then
    fn_Trees_part_24  S
  else
    (if p2 < (4 : Int32) then
      (wd_c (fn_Row_at (p0 + 7) ((p1 * (4 : Int32)) + p2) S) fun x4 S3 =>
      fn_Trees_part_25 x4 S3)
    else
      fn_Trees_part_24  S))
set_option maxRecDepth 100000 in
theorem sn_Trees_part {L : Nat} {xs : Nat → Int32} {p0 : Nat} {p1 : Int32} {p2 : Int32} {S : wd_S} {x : Int32} {S' : wd_S} (hp0 : tp_t p0 = (0, 8)) (h : fn_Trees_part p0 p1 p2 S = some (x, S')) : ev_r tb_P L xs (1 + 1) 95 [.ref p0, .int p1, .int p2] (wd_k S) (.inl (some (.int x)), wd_k S') := by
  unfold fn_Trees_part at h
  refine ev_of (Nat.le_of_ble_eq_true rfl) ?_
  show go_r tb_P L xs 1 95 0 [(0, .ref p0), (1, .int p1), (2, .int p2)] [] (wd_k S) (.inl (some (.int x)), wd_k S')
  refine bk_b (q := (1, [(0, .ref p0), (1, .int p1), (2, .int p2)], [.int p2])) tb_c_95_0 mx_95 1 rfl ?_
  by_cases g1 : p2 < 0
  · rw [if_pos g1] at h
    refine bk_zt tb_c_95_0 rfl (pc' := 24) rfl (cm_lt_t g1) ?_
    exact go_lv ls_nil (sn_Trees_part_24 h)
  · rw [if_neg g1] at h
    refine bk_zf tb_c_95_0 rfl (pc' := 4) rfl (t := 24) rfl (cm_lt_f g1) ?_
    refine bk_b (q := (6, [(0, .ref p0), (1, .int p1), (2, .int p2)], [.int (4 : Int32), .int p2])) tb_c_95_0 mx_95 2 rfl ?_
    by_cases g2 : p2 < (4 : Int32)
    · rw [if_pos g2] at h
      refine bk_jf tb_c_95_0 rfl (pc' := 9) rfl (t := 24) rfl (cm_ge_f g2) ?_
      refine bk_b (q := (10, [(0, .ref p0), (1, .int p1), (2, .int p2)], [.ref p0])) tb_c_95_0 mx_95 1 rfl ?_
      refine bk_go tb_c_95_0 rfl rfl (ci := 8) (k := 3) rfl hp0 rfl ?_
      refine bk_b (q := (18, [(0, .ref p0), (1, .int p1), (2, .int p2)], [.int ((p1 * (4 : Int32)) + p2), .ref (p0 + 7)])) tb_c_95_0 mx_95 5 rfl ?_
      obtain ⟨x4, S3, c5, h⟩ := wd_cx h
      refine bk_kv tb_c_95_0 rfl rfl rfl rfl rfl (ci := 5) (tp_8_3 hp0) rfl (ev_up (Nat.le_of_ble_eq_true rfl) (sn_Row_at (tp_8_3 hp0) c5)) ?_
      refine bk_b (q := (25, [(0, .ref p0), (1, .int p1), (2, .int p2)], [.int x4])) tb_c_95_0 mx_95 1 rfl ?_
      exact go_lv ls_nil (sn_Trees_part_25 h)
    · rw [if_neg g2] at h
      refine bk_jt tb_c_95_0 rfl (pc' := 24) rfl (cm_ge_t g2) ?_
      exact go_lv ls_nil (sn_Trees_part_24 h)
theorem mx_96 : mi_mx tb_P 96 = 2 := rfl
noncomputable def fn_Maker_isNumber_17 (s0 : Int32) (S : wd_S) : Option (Int32 × wd_S) :=
  (if mi_fit .boolean (.int s0) = true then some (s0, S) else none)
set_option maxRecDepth 100000 in
theorem sn_Maker_isNumber_17 {L : Nat} {xs : Nat → Int32} {s0 : Int32} {S : wd_S} {x : Int32} {S' : wd_S} (h : fn_Maker_isNumber_17 s0 S = some (x, S')) : go_r tb_P L xs 2 96 17 [] [.int s0] (wd_k S) (.inl (some (.int x)), wd_k S') := by
  unfold fn_Maker_isNumber_17 at h
  by_cases g6 : mi_fit .boolean (.int s0) = true
  · rw [if_pos g6] at h
    cases h
    exact bk_t tb_c_96_0 rfl (if_pos g6)
  · rw [if_neg g6] at h; cases h
/-- Specialiser$Maker.isNumber(I)Z -/
noncomputable def fn_Maker_isNumber (p1 : Int32) (S : wd_S) : Option (Int32 × wd_S) :=
  (if tp_t (S.2.2.1 115 4) = (0, 8) then
    (wd_c (fn_Trees_kind (S.2.2.1 115 4) p1 S) fun x3 S2 =>
    (if x3 = (1 : Int32) then
      fn_Maker_isNumber_17 (1 : Int32) S2
    else
      fn_Maker_isNumber_17 (0 : Int32) S2))
  else none)
set_option maxRecDepth 100000 in
theorem sn_Maker_isNumber {L : Nat} {xs : Nat → Int32} {p1 : Int32} {S : wd_S} {x : Int32} {S' : wd_S} (h : fn_Maker_isNumber p1 S = some (x, S')) : ev_r tb_P L xs (2 + 1) 96 [.ref 115, .int p1] (wd_k S) (.inl (some (.int x)), wd_k S') := by
  unfold fn_Maker_isNumber at h
  refine ev_of (Nat.le_of_ble_eq_true rfl) ?_
  show go_r tb_P L xs 2 96 0 [(0, .ref 115), (1, .int p1)] [] (wd_k S) (.inl (some (.int x)), wd_k S')
  refine bk_b (q := (1, [(0, .ref 115), (1, .int p1)], [.ref 115])) tb_c_96_0 mx_96 1 rfl ?_
  refine bk_gm tb_c_96_0 rfl rfl (ci := 2) (k := 4) rfl rfl rfl ?_
  by_cases g1 : tp_t (S.2.2.1 115 4) = (0, 8)
  · rw [if_pos g1] at h
    refine bk_b (q := (5, [(0, .ref 115), (1, .int p1)], [.int p1, .ref (S.2.2.1 115 4)])) tb_c_96_0 mx_96 1 rfl ?_
    obtain ⟨x3, S2, c4, h⟩ := wd_cx h
    refine bk_kv tb_c_96_0 rfl rfl rfl rfl rfl (ci := 8) g1 rfl (ev_up (Nat.le_of_ble_eq_true rfl) (sn_Trees_kind g1 c4)) ?_
    refine bk_b (q := (9, [(0, .ref 115), (1, .int p1)], [.int (1 : Int32), .int x3])) tb_c_96_0 mx_96 1 rfl ?_
    by_cases g5 : x3 = (1 : Int32)
    · rw [if_pos g5] at h
      refine bk_jf tb_c_96_0 rfl (pc' := 12) rfl (t := 16) rfl (cm_ne_f g5) ?_
      refine bk_b (q := (17, [(0, .ref 115), (1, .int p1)], [.int (1 : Int32)])) tb_c_96_0 mx_96 2 rfl ?_
      exact go_lv ls_nil (sn_Maker_isNumber_17 h)
    · rw [if_neg g5] at h
      refine bk_jt tb_c_96_0 rfl (pc' := 16) rfl (cm_ne_t g5) ?_
      refine bk_b (q := (17, [(0, .ref 115), (1, .int p1)], [.int (0 : Int32)])) tb_c_96_0 mx_96 1 rfl ?_
      exact go_lv ls_nil (sn_Maker_isNumber_17 h)
  · rw [if_neg g1] at h; cases h
theorem mx_94 : mi_mx tb_P 94 = 6 := rfl
/-- Specialiser$Maker.becomeLet(II)I -/
noncomputable def fn_Maker_becomeLet (slf : Nat → Int32 → Int32 → wd_S → Option ((Int32 ⊕ String) × wd_S)) (p1 : Int32) (p2 : Int32) (S : wd_S) : Option ((Int32 ⊕ String) × wd_S) :=
  (if tp_t (S.2.2.1 115 2) = (0, 8) then
    (wd_c (fn_Trees_value (S.2.2.1 115 2) p1 S) fun x3 S2 =>
    (if tp_t (S2.2.2.1 115 2) = (0, 8) then
      (wd_c (fn_Trees_part (S2.2.2.1 115 2) p1 (0 : Int32) S2) fun x7 S6 =>
      (wd_c (slf 93 x7 (p2 + (1 : Int32)) S6) fun x10o S9 => wd_o x10o (fun x10 =>
      (wd_c (fn_Maker_isNumber x10 S9) fun x14 S13 =>
      (if x14 = 0 then
        (wd_d (fn_Maker_bind x3 (0 : Int32) x3 S13) fun S17 =>
        (if tp_t (S17.2.2.1 115 4) = (0, 8) then
          (wd_c (fn_Trees_open (S17.2.2.1 115 4) (3 : Int32) x3 S17) fun x22 S21 =>
          (if tp_t (S21.2.2.1 115 4) = (0, 8) then
            (wd_d (fn_Trees_append (S21.2.2.1 115 4) x22 x10 S21) fun S25 =>
            (if tp_t (S25.2.2.1 115 4) = (0, 8) then
              (if tp_t (S25.2.2.1 115 2) = (0, 8) then
                (wd_c (fn_Trees_part (S25.2.2.1 115 2) p1 (1 : Int32) S25) fun x31 S30 =>
                (wd_c (slf 93 x31 (p2 + (1 : Int32)) S30) fun x34o S33 => wd_o x34o (fun x34 =>
                (wd_d (fn_Trees_append (S25.2.2.1 115 4) x22 x34 S33) fun S37 =>
                some (.inl x22, S37))) (fun E36 => some (.inr E36, S33))))
              else none)
            else none))
          else none))
        else none))
      else
        (if tp_t (S13.2.2.1 115 4) = (0, 8) then
          (wd_c (fn_Trees_value (S13.2.2.1 115 4) x10 S13) fun x42 S41 =>
          (wd_d (fn_Maker_bind x3 (1 : Int32) x42 S41) fun S44 =>
          (if tp_t (S44.2.2.1 115 2) = (0, 8) then
            (wd_c (fn_Trees_part (S44.2.2.1 115 2) p1 (1 : Int32) S44) fun x49 S48 =>
            (wd_c (slf 93 x49 (p2 + (1 : Int32)) S48) fun x52o S51 => wd_o x52o (fun x52 =>
            some (.inl x52, S51)) (fun E54 => some (.inr E54, S51))))
          else none)))
        else none)))) (fun E12 => some (.inr E12, S9))))
    else none))
  else none)
set_option maxRecDepth 100000 in
theorem sn_Maker_becomeLet {L : Nat} {xs : Nat → Int32} {D : Nat} {slf : Nat → Int32 → Int32 → wd_S → Option ((Int32 ⊕ String) × wd_S)} (hD : 4 ≤ D) (hs93 : ∀ {a b : Int32} {S : wd_S} {x : Int32 ⊕ String} {S' : wd_S}, slf 93 a b S = some (x, S') → ev_r tb_P L xs D 93 [.ref 115, .int a, .int b] (wd_k S) (wd_wi x, wd_k S')) (hs94 : ∀ {a b : Int32} {S : wd_S} {x : Int32 ⊕ String} {S' : wd_S}, slf 94 a b S = some (x, S') → ev_r tb_P L xs D 94 [.ref 115, .int a, .int b] (wd_k S) (wd_wi x, wd_k S')) (hs97 : ∀ {a b : Int32} {S : wd_S} {x : Int32 ⊕ String} {S' : wd_S}, slf 97 a b S = some (x, S') → ev_r tb_P L xs D 97 [.ref 115, .int a, .int b] (wd_k S) (wd_wi x, wd_k S')) (hs98 : ∀ {a b : Int32} {S : wd_S} {x : Int32 ⊕ String} {S' : wd_S}, slf 98 a b S = some (x, S') → ev_r tb_P L xs D 98 [.ref 115, .int a, .int b] (wd_k S) (wd_wi x, wd_k S')) (hs115 : ∀ {a b : Int32} {S : wd_S} {x : Int32 ⊕ String} {S' : wd_S}, slf 115 a b S = some (x, S') → ev_r tb_P L xs D 115 [.ref 115, .int a, .int b] (wd_k S) (wd_wi x, wd_k S')) {p1 : Int32} {p2 : Int32} {S : wd_S} {x : Int32 ⊕ String} {S' : wd_S} (h : fn_Maker_becomeLet slf p1 p2 S = some (x, S')) : ev_r tb_P L xs (D + 1) 94 [.ref 115, .int p1, .int p2] (wd_k S) (wd_wi x, wd_k S') := by
  unfold fn_Maker_becomeLet at h
  refine ev_of (Nat.le_of_ble_eq_true rfl) ?_
  show go_r tb_P L xs D 94 0 [(0, .ref 115), (1, .int p1), (2, .int p2)] [] (wd_k S) (wd_wi x, wd_k S')
  refine bk_b (q := (1, [(0, .ref 115), (1, .int p1), (2, .int p2)], [.ref 115])) tb_c_94_0 mx_94 1 rfl ?_
  refine bk_gm tb_c_94_0 rfl rfl (ci := 2) (k := 2) rfl rfl rfl ?_
  by_cases g1 : tp_t (S.2.2.1 115 2) = (0, 8)
  · rw [if_pos g1] at h
    refine bk_b (q := (5, [(0, .ref 115), (1, .int p1), (2, .int p2)], [.int p1, .ref (S.2.2.1 115 2)])) tb_c_94_0 mx_94 1 rfl ?_
    obtain ⟨x3, S2, c4, h⟩ := wd_cx h
    refine bk_kv tb_c_94_0 rfl rfl rfl rfl rfl (ci := 8) g1 rfl (ev_up (Nat.le_trans (Nat.le_of_ble_eq_true rfl) hD) (sn_Trees_value g1 c4)) ?_
    refine bk_b (q := (11, [(3, .int x3), (0, .ref 115), (1, .int p1), (2, .int p2)], [.ref 115, .ref 115])) tb_c_94_0 mx_94 3 rfl ?_
    refine bk_gm tb_c_94_0 rfl rfl (ci := 2) (k := 2) rfl rfl rfl ?_
    by_cases g5 : tp_t (S2.2.2.1 115 2) = (0, 8)
    · rw [if_pos g5] at h
      refine bk_b (q := (16, [(3, .int x3), (0, .ref 115), (1, .int p1), (2, .int p2)], [.int (0 : Int32), .int p1, .ref (S2.2.2.1 115 2), .ref 115])) tb_c_94_0 mx_94 2 rfl ?_
      obtain ⟨x7, S6, c8, h⟩ := wd_cx h
      refine bk_kv tb_c_94_0 rfl rfl rfl rfl rfl (ci := 8) g5 rfl (ev_up (Nat.le_trans (Nat.le_of_ble_eq_true rfl) hD) (sn_Trees_part g5 c8)) ?_
      refine bk_b (q := (22, [(3, .int x3), (0, .ref 115), (1, .int p1), (2, .int p2)], [.int (p2 + (1 : Int32)), .int x7, .ref 115])) tb_c_94_0 mx_94 3 rfl ?_
      obtain ⟨x10o, S9, c11, h⟩ := wd_cx h
      rcases wd_ox h with ⟨x10, rfl, nx10⟩ | ⟨E12, rfl, nx10⟩
      · replace h := nx10
        refine bk_kv tb_c_94_0 rfl rfl rfl rfl rfl (ci := 2) rfl rfl (hs93 c11) ?_
        refine bk_b (q := (30, [(4, .int x10), (3, .int x3), (0, .ref 115), (1, .int p1), (2, .int p2)], [.int x10, .ref 115])) tb_c_94_0 mx_94 3 rfl ?_
        obtain ⟨x14, S13, c15, h⟩ := wd_cx h
        refine bk_kv tb_c_94_0 rfl rfl rfl rfl rfl (ci := 2) rfl rfl (ev_up (Nat.le_trans (Nat.le_of_ble_eq_true rfl) hD) (sn_Maker_isNumber c15)) ?_
        by_cases g16 : x14 = 0
        · rw [if_pos g16] at h
          refine bk_zt tb_c_94_0 rfl (pc' := 68) rfl (cm_eq_t g16) ?_
          refine bk_b (q := (69, [(4, .int x10), (3, .int x3), (0, .ref 115), (1, .int p1), (2, .int p2)], [.ref 115])) tb_c_94_0 mx_94 1 rfl ?_
          refine bk_b (q := (72, [(4, .int x10), (3, .int x3), (0, .ref 115), (1, .int p1), (2, .int p2)], [.int x3, .int (0 : Int32), .int x3, .ref 115])) tb_c_94_1 mx_94 3 rfl ?_
          obtain ⟨S17, c19, h⟩ := wd_dx h
          refine bk_kv tb_c_94_1 rfl rfl rfl rfl rfl (ci := 2) rfl rfl (ev_up (Nat.le_trans (Nat.le_of_ble_eq_true rfl) hD) (sn_Maker_bind c19)) ?_
          refine bk_b (q := (76, [(4, .int x10), (3, .int x3), (0, .ref 115), (1, .int p1), (2, .int p2)], [.ref 115])) tb_c_94_1 mx_94 1 rfl ?_
          refine bk_gm tb_c_94_1 rfl rfl (ci := 2) (k := 4) rfl rfl rfl ?_
          by_cases g20 : tp_t (S17.2.2.1 115 4) = (0, 8)
          · rw [if_pos g20] at h
            refine bk_b (q := (81, [(4, .int x10), (3, .int x3), (0, .ref 115), (1, .int p1), (2, .int p2)], [.int x3, .int (3 : Int32), .ref (S17.2.2.1 115 4)])) tb_c_94_1 mx_94 2 rfl ?_
            obtain ⟨x22, S21, c23, h⟩ := wd_cx h
            refine bk_kv tb_c_94_1 rfl rfl rfl rfl rfl (ci := 8) g20 rfl (ev_up (Nat.le_trans (Nat.le_of_ble_eq_true rfl) hD) (sn_Trees_open g20 c23)) ?_
            refine bk_b (q := (87, [(5, .int x22), (4, .int x10), (3, .int x3), (0, .ref 115), (1, .int p1), (2, .int p2)], [.ref 115])) tb_c_94_1 mx_94 2 rfl ?_
            refine bk_gm tb_c_94_1 rfl rfl (ci := 2) (k := 4) rfl rfl rfl ?_
            by_cases g24 : tp_t (S21.2.2.1 115 4) = (0, 8)
            · rw [if_pos g24] at h
              refine bk_b (q := (94, [(5, .int x22), (4, .int x10), (3, .int x3), (0, .ref 115), (1, .int p1), (2, .int p2)], [.int x10, .int x22, .ref (S21.2.2.1 115 4)])) tb_c_94_1 mx_94 2 rfl ?_
              obtain ⟨S25, c27, h⟩ := wd_dx h
              refine bk_kv tb_c_94_1 rfl rfl rfl rfl rfl (ci := 8) g24 rfl (ev_up (Nat.le_trans (Nat.le_of_ble_eq_true rfl) hD) (sn_Trees_append g24 c27)) ?_
              refine bk_b (q := (98, [(5, .int x22), (4, .int x10), (3, .int x3), (0, .ref 115), (1, .int p1), (2, .int p2)], [.ref 115])) tb_c_94_1 mx_94 1 rfl ?_
              refine bk_gm tb_c_94_1 rfl rfl (ci := 2) (k := 4) rfl rfl rfl ?_
              by_cases g28 : tp_t (S25.2.2.1 115 4) = (0, 8)
              · rw [if_pos g28] at h
                refine bk_b (q := (105, [(5, .int x22), (4, .int x10), (3, .int x3), (0, .ref 115), (1, .int p1), (2, .int p2)], [.ref 115, .ref 115, .int x22, .ref (S25.2.2.1 115 4)])) tb_c_94_1 mx_94 3 rfl ?_
                refine bk_gm tb_c_94_1 rfl rfl (ci := 2) (k := 2) rfl rfl rfl ?_
                by_cases g29 : tp_t (S25.2.2.1 115 2) = (0, 8)
                · rw [if_pos g29] at h
                  refine bk_b (q := (110, [(5, .int x22), (4, .int x10), (3, .int x3), (0, .ref 115), (1, .int p1), (2, .int p2)], [.int (1 : Int32), .int p1, .ref (S25.2.2.1 115 2), .ref 115, .int x22, .ref (S25.2.2.1 115 4)])) tb_c_94_1 mx_94 2 rfl ?_
                  obtain ⟨x31, S30, c32, h⟩ := wd_cx h
                  refine bk_kv tb_c_94_1 rfl rfl rfl rfl rfl (ci := 8) g29 rfl (ev_up (Nat.le_trans (Nat.le_of_ble_eq_true rfl) hD) (sn_Trees_part g29 c32)) ?_
                  refine bk_b (q := (116, [(5, .int x22), (4, .int x10), (3, .int x3), (0, .ref 115), (1, .int p1), (2, .int p2)], [.int (p2 + (1 : Int32)), .int x31, .ref 115, .int x22, .ref (S25.2.2.1 115 4)])) tb_c_94_1 mx_94 3 rfl ?_
                  obtain ⟨x34o, S33, c35, h⟩ := wd_cx h
                  rcases wd_ox h with ⟨x34, rfl, nx34⟩ | ⟨E36, rfl, nx34⟩
                  · replace h := nx34
                    refine bk_kv tb_c_94_1 rfl rfl rfl rfl rfl (ci := 2) rfl rfl (hs93 c35) ?_
                    obtain ⟨S37, c39, h⟩ := wd_dx h
                    refine bk_kv tb_c_94_1 rfl rfl rfl rfl rfl (ci := 8) g28 rfl (ev_up (Nat.le_trans (Nat.le_of_ble_eq_true rfl) hD) (sn_Trees_append g28 c39)) ?_
                    refine bk_b (q := (124, [(5, .int x22), (4, .int x10), (3, .int x3), (0, .ref 115), (1, .int p1), (2, .int p2)], [.int x22])) tb_c_94_1 mx_94 1 rfl ?_
                    cases h
                    exact bk_t tb_c_94_1 rfl rfl
                  · replace h := nx34
                    cases h
                    exact bk_kp tb_c_94_1 rfl rfl rfl rfl rfl (ci := 2) rfl rfl (hs93 c35) rfl rfl
                · rw [if_neg g29] at h; cases h
              · rw [if_neg g28] at h; cases h
            · rw [if_neg g24] at h; cases h
          · rw [if_neg g20] at h; cases h
        · rw [if_neg g16] at h
          refine bk_zf tb_c_94_0 rfl (pc' := 36) rfl (t := 68) rfl (cm_eq_f g16) ?_
          refine bk_b (q := (40, [(4, .int x10), (3, .int x3), (0, .ref 115), (1, .int p1), (2, .int p2)], [.ref 115, .int (1 : Int32), .int x3, .ref 115])) tb_c_94_0 mx_94 4 rfl ?_
          refine bk_gm tb_c_94_0 rfl rfl (ci := 2) (k := 4) rfl rfl rfl ?_
          by_cases g40 : tp_t (S13.2.2.1 115 4) = (0, 8)
          · rw [if_pos g40] at h
            refine bk_b (q := (45, [(4, .int x10), (3, .int x3), (0, .ref 115), (1, .int p1), (2, .int p2)], [.int x10, .ref (S13.2.2.1 115 4), .int (1 : Int32), .int x3, .ref 115])) tb_c_94_0 mx_94 1 rfl ?_
            obtain ⟨x42, S41, c43, h⟩ := wd_cx h
            refine bk_kv tb_c_94_0 rfl rfl rfl rfl rfl (ci := 8) g40 rfl (ev_up (Nat.le_trans (Nat.le_of_ble_eq_true rfl) hD) (sn_Trees_value g40 c43)) ?_
            obtain ⟨S44, c46, h⟩ := wd_dx h
            refine bk_kv tb_c_94_0 rfl rfl rfl rfl rfl (ci := 2) rfl rfl (ev_up (Nat.le_trans (Nat.le_of_ble_eq_true rfl) hD) (sn_Maker_bind c46)) ?_
            refine bk_b (q := (53, [(4, .int x10), (3, .int x3), (0, .ref 115), (1, .int p1), (2, .int p2)], [.ref 115, .ref 115])) tb_c_94_0 mx_94 2 rfl ?_
            refine bk_gm tb_c_94_0 rfl rfl (ci := 2) (k := 2) rfl rfl rfl ?_
            by_cases g47 : tp_t (S44.2.2.1 115 2) = (0, 8)
            · rw [if_pos g47] at h
              refine bk_b (q := (58, [(4, .int x10), (3, .int x3), (0, .ref 115), (1, .int p1), (2, .int p2)], [.int (1 : Int32), .int p1, .ref (S44.2.2.1 115 2), .ref 115])) tb_c_94_0 mx_94 2 rfl ?_
              obtain ⟨x49, S48, c50, h⟩ := wd_cx h
              refine bk_kv tb_c_94_0 rfl rfl rfl rfl rfl (ci := 8) g47 rfl (ev_up (Nat.le_trans (Nat.le_of_ble_eq_true rfl) hD) (sn_Trees_part g47 c50)) ?_
              refine bk_b (q := (64, [(4, .int x10), (3, .int x3), (0, .ref 115), (1, .int p1), (2, .int p2)], [.int (p2 + (1 : Int32)), .int x49, .ref 115])) tb_c_94_0 mx_94 3 rfl ?_
              obtain ⟨x52o, S51, c53, h⟩ := wd_cx h
              rcases wd_ox h with ⟨x52, rfl, nx52⟩ | ⟨E54, rfl, nx52⟩
              · replace h := nx52
                refine bk_kv tb_c_94_0 rfl rfl rfl rfl rfl (ci := 2) rfl rfl (hs93 c53) ?_
                cases h
                exact bk_t tb_c_94_0 rfl rfl
              · replace h := nx52
                cases h
                exact bk_kp tb_c_94_0 rfl rfl rfl rfl rfl (ci := 2) rfl rfl (hs93 c53) rfl rfl
            · rw [if_neg g47] at h; cases h
          · rw [if_neg g40] at h; cases h
      · replace h := nx10
        cases h
        exact bk_kp tb_c_94_0 rfl rfl rfl rfl rfl (ci := 2) rfl rfl (hs93 c11) rfl rfl
    · rw [if_neg g5] at h; cases h
  · rw [if_neg g1] at h; cases h
theorem mx_97 : mi_mx tb_P 97 = 5 := rfl
noncomputable def fn_Maker_becomeIf_47 (slf : Nat → Int32 → Int32 → wd_S → Option ((Int32 ⊕ String) × wd_S)) (l2 : Int32) (s1 : Nat) (s2 : Int32) (s3 : Int32) (S : wd_S) : Option ((Int32 ⊕ String) × wd_S) :=
  (wd_c (fn_Trees_part s1 s2 s3 S) fun x52 S51 =>
  (wd_c (slf 93 x52 (l2 + (1 : Int32)) S51) fun x55o S54 => wd_o x55o (fun x55 =>
  some (.inl x55, S54)) (fun E57 => some (.inr E57, S54))))
set_option maxRecDepth 100000 in
theorem sn_Maker_becomeIf_47 {L : Nat} {xs : Nat → Int32} {D : Nat} {slf : Nat → Int32 → Int32 → wd_S → Option ((Int32 ⊕ String) × wd_S)} (hD : 4 ≤ D) (hs93 : ∀ {a b : Int32} {S : wd_S} {x : Int32 ⊕ String} {S' : wd_S}, slf 93 a b S = some (x, S') → ev_r tb_P L xs D 93 [.ref 115, .int a, .int b] (wd_k S) (wd_wi x, wd_k S')) (hs94 : ∀ {a b : Int32} {S : wd_S} {x : Int32 ⊕ String} {S' : wd_S}, slf 94 a b S = some (x, S') → ev_r tb_P L xs D 94 [.ref 115, .int a, .int b] (wd_k S) (wd_wi x, wd_k S')) (hs97 : ∀ {a b : Int32} {S : wd_S} {x : Int32 ⊕ String} {S' : wd_S}, slf 97 a b S = some (x, S') → ev_r tb_P L xs D 97 [.ref 115, .int a, .int b] (wd_k S) (wd_wi x, wd_k S')) (hs98 : ∀ {a b : Int32} {S : wd_S} {x : Int32 ⊕ String} {S' : wd_S}, slf 98 a b S = some (x, S') → ev_r tb_P L xs D 98 [.ref 115, .int a, .int b] (wd_k S) (wd_wi x, wd_k S')) (hs115 : ∀ {a b : Int32} {S : wd_S} {x : Int32 ⊕ String} {S' : wd_S}, slf 115 a b S = some (x, S') → ev_r tb_P L xs D 115 [.ref 115, .int a, .int b] (wd_k S) (wd_wi x, wd_k S')) {l2 : Int32} {s1 : Nat} {s2 : Int32} {s3 : Int32} {S : wd_S} {x : Int32 ⊕ String} {S' : wd_S} (hs1 : tp_t s1 = (0, 8)) (h : fn_Maker_becomeIf_47 slf l2 s1 s2 s3 S = some (x, S')) : go_r tb_P L xs D 97 47 [(2, .int l2)] [.int s3, .int s2, .ref s1, .ref 115] (wd_k S) (wd_wi x, wd_k S') := by
  unfold fn_Maker_becomeIf_47 at h
  obtain ⟨x52, S51, c53, h⟩ := wd_cx h
  refine bk_kv tb_c_97_0 rfl rfl rfl rfl rfl (ci := 8) hs1 rfl (ev_up (Nat.le_trans (Nat.le_of_ble_eq_true rfl) hD) (sn_Trees_part hs1 c53)) ?_
  refine bk_b (q := (53, [(2, .int l2)], [.int (l2 + (1 : Int32)), .int x52, .ref 115])) tb_c_97_0 mx_97 3 rfl ?_
  obtain ⟨x55o, S54, c56, h⟩ := wd_cx h
  rcases wd_ox h with ⟨x55, rfl, nx55⟩ | ⟨E57, rfl, nx55⟩
  · replace h := nx55
    refine bk_kv tb_c_97_0 rfl rfl rfl rfl rfl (ci := 2) rfl rfl (hs93 c56) ?_
    cases h
    exact bk_t tb_c_97_0 rfl rfl
  · replace h := nx55
    cases h
    exact bk_kp tb_c_97_0 rfl rfl rfl rfl rfl (ci := 2) rfl rfl (hs93 c56) rfl rfl
/-- Specialiser$Maker.becomeIf(II)I -/
noncomputable def fn_Maker_becomeIf (slf : Nat → Int32 → Int32 → wd_S → Option ((Int32 ⊕ String) × wd_S)) (p1 : Int32) (p2 : Int32) (S : wd_S) : Option ((Int32 ⊕ String) × wd_S) :=
  (if tp_t (S.2.2.1 115 2) = (0, 8) then
    (wd_c (fn_Trees_part (S.2.2.1 115 2) p1 (0 : Int32) S) fun x3 S2 =>
    (wd_c (slf 93 x3 (p2 + (1 : Int32)) S2) fun x6o S5 => wd_o x6o (fun x6 =>
    (wd_c (fn_Maker_isNumber x6 S5) fun x10 S9 =>
    (if x10 = 0 then
      (if tp_t (S9.2.2.1 115 4) = (0, 8) then
        (wd_c (fn_Trees_open (S9.2.2.1 115 4) (4 : Int32) (0 : Int32) S9) fun x15 S14 =>
        (if tp_t (S14.2.2.1 115 4) = (0, 8) then
          (wd_d (fn_Trees_append (S14.2.2.1 115 4) x15 x6 S14) fun S18 =>
          (if tp_t (S18.2.2.1 115 4) = (0, 8) then
            (if tp_t (S18.2.2.1 115 2) = (0, 8) then
              (wd_c (fn_Trees_part (S18.2.2.1 115 2) p1 (1 : Int32) S18) fun x24 S23 =>
              (wd_c (slf 93 x24 (p2 + (1 : Int32)) S23) fun x27o S26 => wd_o x27o (fun x27 =>
              (wd_d (fn_Trees_append (S18.2.2.1 115 4) x15 x27 S26) fun S30 =>
              (if tp_t (S30.2.2.1 115 4) = (0, 8) then
                (if tp_t (S30.2.2.1 115 2) = (0, 8) then
                  (wd_c (fn_Trees_part (S30.2.2.1 115 2) p1 (2 : Int32) S30) fun x36 S35 =>
                  (wd_c (slf 93 x36 (p2 + (1 : Int32)) S35) fun x39o S38 => wd_o x39o (fun x39 =>
                  (wd_d (fn_Trees_append (S30.2.2.1 115 4) x15 x39 S38) fun S42 =>
                  some (.inl x15, S42))) (fun E41 => some (.inr E41, S38))))
                else none)
              else none))) (fun E29 => some (.inr E29, S26))))
            else none)
          else none))
        else none))
      else none)
    else
      (if tp_t (S9.2.2.1 115 2) = (0, 8) then
        (if tp_t (S9.2.2.1 115 4) = (0, 8) then
          (wd_c (fn_Trees_value (S9.2.2.1 115 4) x6 S9) fun x48 S47 =>
          (if x48 = 0 then
            fn_Maker_becomeIf_47 slf p2 (S9.2.2.1 115 2) p1 (2 : Int32) S47
          else
            fn_Maker_becomeIf_47 slf p2 (S9.2.2.1 115 2) p1 (1 : Int32) S47))
        else none)
      else none)))) (fun E8 => some (.inr E8, S5))))
  else none)
set_option maxRecDepth 100000 in
theorem sn_Maker_becomeIf {L : Nat} {xs : Nat → Int32} {D : Nat} {slf : Nat → Int32 → Int32 → wd_S → Option ((Int32 ⊕ String) × wd_S)} (hD : 4 ≤ D) (hs93 : ∀ {a b : Int32} {S : wd_S} {x : Int32 ⊕ String} {S' : wd_S}, slf 93 a b S = some (x, S') → ev_r tb_P L xs D 93 [.ref 115, .int a, .int b] (wd_k S) (wd_wi x, wd_k S')) (hs94 : ∀ {a b : Int32} {S : wd_S} {x : Int32 ⊕ String} {S' : wd_S}, slf 94 a b S = some (x, S') → ev_r tb_P L xs D 94 [.ref 115, .int a, .int b] (wd_k S) (wd_wi x, wd_k S')) (hs97 : ∀ {a b : Int32} {S : wd_S} {x : Int32 ⊕ String} {S' : wd_S}, slf 97 a b S = some (x, S') → ev_r tb_P L xs D 97 [.ref 115, .int a, .int b] (wd_k S) (wd_wi x, wd_k S')) (hs98 : ∀ {a b : Int32} {S : wd_S} {x : Int32 ⊕ String} {S' : wd_S}, slf 98 a b S = some (x, S') → ev_r tb_P L xs D 98 [.ref 115, .int a, .int b] (wd_k S) (wd_wi x, wd_k S')) (hs115 : ∀ {a b : Int32} {S : wd_S} {x : Int32 ⊕ String} {S' : wd_S}, slf 115 a b S = some (x, S') → ev_r tb_P L xs D 115 [.ref 115, .int a, .int b] (wd_k S) (wd_wi x, wd_k S')) {p1 : Int32} {p2 : Int32} {S : wd_S} {x : Int32 ⊕ String} {S' : wd_S} (h : fn_Maker_becomeIf slf p1 p2 S = some (x, S')) : ev_r tb_P L xs (D + 1) 97 [.ref 115, .int p1, .int p2] (wd_k S) (wd_wi x, wd_k S') := by
  unfold fn_Maker_becomeIf at h
  refine ev_of (Nat.le_of_ble_eq_true rfl) ?_
  show go_r tb_P L xs D 97 0 [(0, .ref 115), (1, .int p1), (2, .int p2)] [] (wd_k S) (wd_wi x, wd_k S')
  refine bk_b (q := (2, [(0, .ref 115), (1, .int p1), (2, .int p2)], [.ref 115, .ref 115])) tb_c_97_0 mx_97 2 rfl ?_
  refine bk_gm tb_c_97_0 rfl rfl (ci := 2) (k := 2) rfl rfl rfl ?_
  by_cases g1 : tp_t (S.2.2.1 115 2) = (0, 8)
  · rw [if_pos g1] at h
    refine bk_b (q := (7, [(0, .ref 115), (1, .int p1), (2, .int p2)], [.int (0 : Int32), .int p1, .ref (S.2.2.1 115 2), .ref 115])) tb_c_97_0 mx_97 2 rfl ?_
    obtain ⟨x3, S2, c4, h⟩ := wd_cx h
    refine bk_kv tb_c_97_0 rfl rfl rfl rfl rfl (ci := 8) g1 rfl (ev_up (Nat.le_trans (Nat.le_of_ble_eq_true rfl) hD) (sn_Trees_part g1 c4)) ?_
    refine bk_b (q := (13, [(0, .ref 115), (1, .int p1), (2, .int p2)], [.int (p2 + (1 : Int32)), .int x3, .ref 115])) tb_c_97_0 mx_97 3 rfl ?_
    obtain ⟨x6o, S5, c7, h⟩ := wd_cx h
    rcases wd_ox h with ⟨x6, rfl, nx6⟩ | ⟨E8, rfl, nx6⟩
    · replace h := nx6
      refine bk_kv tb_c_97_0 rfl rfl rfl rfl rfl (ci := 2) rfl rfl (hs93 c7) ?_
      refine bk_b (q := (19, [(3, .int x6), (0, .ref 115), (1, .int p1), (2, .int p2)], [.int x6, .ref 115])) tb_c_97_0 mx_97 3 rfl ?_
      obtain ⟨x10, S9, c11, h⟩ := wd_cx h
      refine bk_kv tb_c_97_0 rfl rfl rfl rfl rfl (ci := 2) rfl rfl (ev_up (Nat.le_trans (Nat.le_of_ble_eq_true rfl) hD) (sn_Maker_isNumber c11)) ?_
      by_cases g12 : x10 = 0
      · rw [if_pos g12] at h
        refine bk_zt tb_c_97_0 rfl (pc' := 57) rfl (cm_eq_t g12) ?_
        refine bk_b (q := (58, [(3, .int x6), (0, .ref 115), (1, .int p1), (2, .int p2)], [.ref 115])) tb_c_97_0 mx_97 1 rfl ?_
        refine bk_gm tb_c_97_0 rfl rfl (ci := 2) (k := 4) rfl rfl rfl ?_
        by_cases g13 : tp_t (S9.2.2.1 115 4) = (0, 8)
        · rw [if_pos g13] at h
          refine bk_b (q := (63, [(3, .int x6), (0, .ref 115), (1, .int p1), (2, .int p2)], [.int (0 : Int32), .int (4 : Int32), .ref (S9.2.2.1 115 4)])) tb_c_97_0 mx_97 2 rfl ?_
          obtain ⟨x15, S14, c16, h⟩ := wd_cx h
          refine bk_kv tb_c_97_0 rfl rfl rfl rfl rfl (ci := 8) g13 rfl (ev_up (Nat.le_trans (Nat.le_of_ble_eq_true rfl) hD) (sn_Trees_open g13 c16)) ?_
          refine bk_b (q := (69, [(4, .int x15), (3, .int x6), (0, .ref 115), (1, .int p1), (2, .int p2)], [.ref 115])) tb_c_97_0 mx_97 2 rfl ?_
          refine bk_gm tb_c_97_1 rfl rfl (ci := 2) (k := 4) rfl rfl rfl ?_
          by_cases g17 : tp_t (S14.2.2.1 115 4) = (0, 8)
          · rw [if_pos g17] at h
            refine bk_b (q := (75, [(4, .int x15), (3, .int x6), (0, .ref 115), (1, .int p1), (2, .int p2)], [.int x6, .int x15, .ref (S14.2.2.1 115 4)])) tb_c_97_1 mx_97 2 rfl ?_
            obtain ⟨S18, c20, h⟩ := wd_dx h
            refine bk_kv tb_c_97_1 rfl rfl rfl rfl rfl (ci := 8) g17 rfl (ev_up (Nat.le_trans (Nat.le_of_ble_eq_true rfl) hD) (sn_Trees_append g17 c20)) ?_
            refine bk_b (q := (79, [(4, .int x15), (3, .int x6), (0, .ref 115), (1, .int p1), (2, .int p2)], [.ref 115])) tb_c_97_1 mx_97 1 rfl ?_
            refine bk_gm tb_c_97_1 rfl rfl (ci := 2) (k := 4) rfl rfl rfl ?_
            by_cases g21 : tp_t (S18.2.2.1 115 4) = (0, 8)
            · rw [if_pos g21] at h
              refine bk_b (q := (86, [(4, .int x15), (3, .int x6), (0, .ref 115), (1, .int p1), (2, .int p2)], [.ref 115, .ref 115, .int x15, .ref (S18.2.2.1 115 4)])) tb_c_97_1 mx_97 3 rfl ?_
              refine bk_gm tb_c_97_1 rfl rfl (ci := 2) (k := 2) rfl rfl rfl ?_
              by_cases g22 : tp_t (S18.2.2.1 115 2) = (0, 8)
              · rw [if_pos g22] at h
                refine bk_b (q := (91, [(4, .int x15), (3, .int x6), (0, .ref 115), (1, .int p1), (2, .int p2)], [.int (1 : Int32), .int p1, .ref (S18.2.2.1 115 2), .ref 115, .int x15, .ref (S18.2.2.1 115 4)])) tb_c_97_1 mx_97 2 rfl ?_
                obtain ⟨x24, S23, c25, h⟩ := wd_cx h
                refine bk_kv tb_c_97_1 rfl rfl rfl rfl rfl (ci := 8) g22 rfl (ev_up (Nat.le_trans (Nat.le_of_ble_eq_true rfl) hD) (sn_Trees_part g22 c25)) ?_
                refine bk_b (q := (97, [(4, .int x15), (3, .int x6), (0, .ref 115), (1, .int p1), (2, .int p2)], [.int (p2 + (1 : Int32)), .int x24, .ref 115, .int x15, .ref (S18.2.2.1 115 4)])) tb_c_97_1 mx_97 3 rfl ?_
                obtain ⟨x27o, S26, c28, h⟩ := wd_cx h
                rcases wd_ox h with ⟨x27, rfl, nx27⟩ | ⟨E29, rfl, nx27⟩
                · replace h := nx27
                  refine bk_kv tb_c_97_1 rfl rfl rfl rfl rfl (ci := 2) rfl rfl (hs93 c28) ?_
                  obtain ⟨S30, c32, h⟩ := wd_dx h
                  refine bk_kv tb_c_97_1 rfl rfl rfl rfl rfl (ci := 8) g21 rfl (ev_up (Nat.le_trans (Nat.le_of_ble_eq_true rfl) hD) (sn_Trees_append g21 c32)) ?_
                  refine bk_b (q := (104, [(4, .int x15), (3, .int x6), (0, .ref 115), (1, .int p1), (2, .int p2)], [.ref 115])) tb_c_97_1 mx_97 1 rfl ?_
                  refine bk_gm tb_c_97_1 rfl rfl (ci := 2) (k := 4) rfl rfl rfl ?_
                  by_cases g33 : tp_t (S30.2.2.1 115 4) = (0, 8)
                  · rw [if_pos g33] at h
                    refine bk_b (q := (111, [(4, .int x15), (3, .int x6), (0, .ref 115), (1, .int p1), (2, .int p2)], [.ref 115, .ref 115, .int x15, .ref (S30.2.2.1 115 4)])) tb_c_97_1 mx_97 3 rfl ?_
                    refine bk_gm tb_c_97_1 rfl rfl (ci := 2) (k := 2) rfl rfl rfl ?_
                    by_cases g34 : tp_t (S30.2.2.1 115 2) = (0, 8)
                    · rw [if_pos g34] at h
                      refine bk_b (q := (116, [(4, .int x15), (3, .int x6), (0, .ref 115), (1, .int p1), (2, .int p2)], [.int (2 : Int32), .int p1, .ref (S30.2.2.1 115 2), .ref 115, .int x15, .ref (S30.2.2.1 115 4)])) tb_c_97_1 mx_97 2 rfl ?_
                      obtain ⟨x36, S35, c37, h⟩ := wd_cx h
                      refine bk_kv tb_c_97_1 rfl rfl rfl rfl rfl (ci := 8) g34 rfl (ev_up (Nat.le_trans (Nat.le_of_ble_eq_true rfl) hD) (sn_Trees_part g34 c37)) ?_
                      refine bk_b (q := (122, [(4, .int x15), (3, .int x6), (0, .ref 115), (1, .int p1), (2, .int p2)], [.int (p2 + (1 : Int32)), .int x36, .ref 115, .int x15, .ref (S30.2.2.1 115 4)])) tb_c_97_1 mx_97 3 rfl ?_
                      obtain ⟨x39o, S38, c40, h⟩ := wd_cx h
                      rcases wd_ox h with ⟨x39, rfl, nx39⟩ | ⟨E41, rfl, nx39⟩
                      · replace h := nx39
                        refine bk_kv tb_c_97_1 rfl rfl rfl rfl rfl (ci := 2) rfl rfl (hs93 c40) ?_
                        obtain ⟨S42, c44, h⟩ := wd_dx h
                        refine bk_kv tb_c_97_1 rfl rfl rfl rfl rfl (ci := 8) g33 rfl (ev_up (Nat.le_trans (Nat.le_of_ble_eq_true rfl) hD) (sn_Trees_append g33 c44)) ?_
                        refine bk_b (q := (130, [(4, .int x15), (3, .int x6), (0, .ref 115), (1, .int p1), (2, .int p2)], [.int x15])) tb_c_97_1 mx_97 1 rfl ?_
                        cases h
                        exact bk_t tb_c_97_1 rfl rfl
                      · replace h := nx39
                        cases h
                        exact bk_kp tb_c_97_1 rfl rfl rfl rfl rfl (ci := 2) rfl rfl (hs93 c40) rfl rfl
                    · rw [if_neg g34] at h; cases h
                  · rw [if_neg g33] at h; cases h
                · replace h := nx27
                  cases h
                  exact bk_kp tb_c_97_1 rfl rfl rfl rfl rfl (ci := 2) rfl rfl (hs93 c28) rfl rfl
              · rw [if_neg g22] at h; cases h
            · rw [if_neg g21] at h; cases h
          · rw [if_neg g17] at h; cases h
        · rw [if_neg g13] at h; cases h
      · rw [if_neg g12] at h
        refine bk_zf tb_c_97_0 rfl (pc' := 25) rfl (t := 57) rfl (cm_eq_f g12) ?_
        refine bk_b (q := (27, [(3, .int x6), (0, .ref 115), (1, .int p1), (2, .int p2)], [.ref 115, .ref 115])) tb_c_97_0 mx_97 2 rfl ?_
        refine bk_gm tb_c_97_0 rfl rfl (ci := 2) (k := 2) rfl rfl rfl ?_
        by_cases g45 : tp_t (S9.2.2.1 115 2) = (0, 8)
        · rw [if_pos g45] at h
          refine bk_b (q := (32, [(3, .int x6), (0, .ref 115), (1, .int p1), (2, .int p2)], [.ref 115, .int p1, .ref (S9.2.2.1 115 2), .ref 115])) tb_c_97_0 mx_97 2 rfl ?_
          refine bk_gm tb_c_97_0 rfl rfl (ci := 2) (k := 4) rfl rfl rfl ?_
          by_cases g46 : tp_t (S9.2.2.1 115 4) = (0, 8)
          · rw [if_pos g46] at h
            refine bk_b (q := (36, [(3, .int x6), (0, .ref 115), (1, .int p1), (2, .int p2)], [.int x6, .ref (S9.2.2.1 115 4), .int p1, .ref (S9.2.2.1 115 2), .ref 115])) tb_c_97_0 mx_97 1 rfl ?_
            obtain ⟨x48, S47, c49, h⟩ := wd_cx h
            refine bk_kv tb_c_97_0 rfl rfl rfl rfl rfl (ci := 8) g46 rfl (ev_up (Nat.le_trans (Nat.le_of_ble_eq_true rfl) hD) (sn_Trees_value g46 c49)) ?_
            by_cases g50 : x48 = 0
            · rw [if_pos g50] at h
              refine bk_zf tb_c_97_0 rfl (pc' := 42) rfl (t := 46) rfl (cm_ne_f g50) ?_
              refine bk_b (q := (47, [(3, .int x6), (0, .ref 115), (1, .int p1), (2, .int p2)], [.int (2 : Int32), .int p1, .ref (S9.2.2.1 115 2), .ref 115])) tb_c_97_0 mx_97 2 rfl ?_
              exact go_lv (ls_sc rfl rfl ls_nil) (sn_Maker_becomeIf_47 hD hs93 hs94 hs97 hs98 hs115 g45 h)
            · rw [if_neg g50] at h
              refine bk_zt tb_c_97_0 rfl (pc' := 46) rfl (cm_ne_t g50) ?_
              refine bk_b (q := (47, [(3, .int x6), (0, .ref 115), (1, .int p1), (2, .int p2)], [.int (1 : Int32), .int p1, .ref (S9.2.2.1 115 2), .ref 115])) tb_c_97_0 mx_97 1 rfl ?_
              exact go_lv (ls_sc rfl rfl ls_nil) (sn_Maker_becomeIf_47 hD hs93 hs94 hs97 hs98 hs115 g45 h)
          · rw [if_neg g46] at h; cases h
        · rw [if_neg g45] at h; cases h
    · replace h := nx6
      cases h
      exact bk_kp tb_c_97_0 rfl rfl rfl rfl rfl (ci := 2) rfl rfl (hs93 c7) rfl rfl
  · rw [if_neg g1] at h; cases h
theorem mx_99 : mi_mx tb_P 99 = 5 := rfl
noncomputable def fn_Maker_gatherWanted_70 (l2 : Int32) (S : wd_S) : Option (Int32 × wd_S) :=
  some (l2, S)
set_option maxRecDepth 100000 in
theorem sn_Maker_gatherWanted_70 {L : Nat} {xs : Nat → Int32} {l2 : Int32} {S : wd_S} {x : Int32} {S' : wd_S} (h : fn_Maker_gatherWanted_70 l2 S = some (x, S')) : go_r tb_P L xs 3 99 70 [(2, .int l2)] [] (wd_k S) (.inl (some (.int x)), wd_k S') := by
  unfold fn_Maker_gatherWanted_70 at h
  refine bk_b (q := (71, [(2, .int l2)], [.int l2])) tb_c_99_0 mx_99 1 rfl ?_
  cases h
  exact bk_t tb_c_99_1 rfl rfl
noncomputable def fn_Maker_gatherWanted_64 (kk4 : Int32 → Int32 → Int32 → wd_S → Option (Int32 × wd_S)) (l1 : Int32) (l2 : Int32) (l3 : Int32) (S : wd_S) : Option (Int32 × wd_S) :=
  kk4 l1 l2 (l3 + (1 : Int32)) S
set_option maxRecDepth 100000 in
theorem sn_Maker_gatherWanted_64 {L : Nat} {xs : Nat → Int32} {kk4 : Int32 → Int32 → Int32 → wd_S → Option (Int32 × wd_S)} (hk4 : ∀ {l1 : Int32} {l2 : Int32} {l3 : Int32} {S : wd_S} {x : Int32} {S' : wd_S}, kk4 l1 l2 l3 S = some (x, S') → go_r tb_P L xs 3 99 4 [(0, .ref 115), (1, .int l1), (2, .int l2), (3, .int l3)] [] (wd_k S) (.inl (some (.int x)), wd_k S')) {l1 : Int32} {l2 : Int32} {l3 : Int32} {S : wd_S} {x : Int32} {S' : wd_S} (h : fn_Maker_gatherWanted_64 kk4 l1 l2 l3 S = some (x, S')) : go_r tb_P L xs 3 99 64 [(0, .ref 115), (1, .int l1), (2, .int l2), (3, .int l3)] [] (wd_k S) (.inl (some (.int x)), wd_k S') := by
  unfold fn_Maker_gatherWanted_64 at h
  refine bk_b (q := (4, [(3, .int (l3 + (1 : Int32))), (0, .ref 115), (1, .int l1), (2, .int l2)], [])) tb_c_99_0 mx_99 2 rfl ?_
  exact go_lv (ls_sc rfl rfl (ls_sc rfl rfl (ls_sc rfl rfl (ls_sc rfl rfl ls_nil)))) (hk4 h)
noncomputable def fn_Maker_gatherWanted_4 : Nat → Int32 → Int32 → Int32 → wd_S → Option (Int32 × wd_S)
  | 0, _, _, _, _ => none
  | n + 1, l1, l2, l3, S =>
    (if l3 < (4 : Int32) then
      (if tp_t (S.2.2.1 115 4) = (0, 8) then
        (wd_c (fn_Trees_parts (S.2.2.1 115 4) l1 S) fun x4 S3 =>
        (if l3 < x4 then
          (if tp_t (S3.2.2.1 115 4) = (0, 8) then
            (wd_c (fn_Trees_part (S3.2.2.1 115 4) l1 l3 S3) fun x9 S8 =>
            (wd_c (fn_Maker_isNumber x9 S8) fun x12 S11 =>
            (if x12 = 0 then
              fn_Maker_gatherWanted_64 (fn_Maker_gatherWanted_4 n) l1 l2 l3 S11
            else
              (if tp_t (S11.2.2.1 115 4) = (0, 8) then
                (wd_c (fn_Trees_value (S11.2.2.1 115 4) x9 S11) fun x17 S16 =>
                (wd_d (fn_Row_put 120 l3 x17 S16) fun S19 =>
                fn_Maker_gatherWanted_64 (fn_Maker_gatherWanted_4 n) l1 (l2 ||| ((1 : Int32) <<< (l3 &&& 31))) l3 S19))
              else none))))
          else none)
        else
          fn_Maker_gatherWanted_70 l2 S3))
      else none)
    else
      fn_Maker_gatherWanted_70 l2 S)
set_option maxRecDepth 100000 in
theorem sn_Maker_gatherWanted_4 {L : Nat} {xs : Nat → Int32} : ∀ (n : Nat) {l1 : Int32} {l2 : Int32} {l3 : Int32} {S : wd_S} {x : Int32} {S' : wd_S}, fn_Maker_gatherWanted_4 n l1 l2 l3 S = some (x, S') → go_r tb_P L xs 3 99 4 [(0, .ref 115), (1, .int l1), (2, .int l2), (3, .int l3)] [] (wd_k S) (.inl (some (.int x)), wd_k S') := by
  intro n
  induction n with
  | zero => intro l1 l2 l3 S x S'  h; cases h
  | succ n ih =>
    intro l1 l2 l3 S x S'  h
    rw [fn_Maker_gatherWanted_4] at h
    refine bk_b (q := (6, [(0, .ref 115), (1, .int l1), (2, .int l2), (3, .int l3)], [.int (4 : Int32), .int l3])) tb_c_99_0 mx_99 2 rfl ?_
    by_cases g1 : l3 < (4 : Int32)
    · rw [if_pos g1] at h
      refine bk_jf tb_c_99_0 rfl (pc' := 9) rfl (t := 70) rfl (cm_ge_f g1) ?_
      refine bk_b (q := (11, [(0, .ref 115), (1, .int l1), (2, .int l2), (3, .int l3)], [.ref 115, .int l3])) tb_c_99_0 mx_99 2 rfl ?_
      refine bk_gm tb_c_99_0 rfl rfl (ci := 2) (k := 4) rfl rfl rfl ?_
      by_cases g2 : tp_t (S.2.2.1 115 4) = (0, 8)
      · rw [if_pos g2] at h
        refine bk_b (q := (15, [(0, .ref 115), (1, .int l1), (2, .int l2), (3, .int l3)], [.int l1, .ref (S.2.2.1 115 4), .int l3])) tb_c_99_0 mx_99 1 rfl ?_
        obtain ⟨x4, S3, c5, h⟩ := wd_cx h
        refine bk_kv tb_c_99_0 rfl rfl rfl rfl rfl (ci := 8) g2 rfl (ev_up (Nat.le_of_ble_eq_true rfl) (sn_Trees_parts g2 c5)) ?_
        by_cases g6 : l3 < x4
        · rw [if_pos g6] at h
          refine bk_jf tb_c_99_0 rfl (pc' := 21) rfl (t := 70) rfl (cm_ge_f g6) ?_
          refine bk_b (q := (22, [(0, .ref 115), (1, .int l1), (2, .int l2), (3, .int l3)], [.ref 115])) tb_c_99_0 mx_99 1 rfl ?_
          refine bk_gm tb_c_99_0 rfl rfl (ci := 2) (k := 4) rfl rfl rfl ?_
          by_cases g7 : tp_t (S3.2.2.1 115 4) = (0, 8)
          · rw [if_pos g7] at h
            refine bk_b (q := (27, [(0, .ref 115), (1, .int l1), (2, .int l2), (3, .int l3)], [.int l3, .int l1, .ref (S3.2.2.1 115 4)])) tb_c_99_0 mx_99 2 rfl ?_
            obtain ⟨x9, S8, c10, h⟩ := wd_cx h
            refine bk_kv tb_c_99_0 rfl rfl rfl rfl rfl (ci := 8) g7 rfl (ev_up (Nat.le_of_ble_eq_true rfl) (sn_Trees_part g7 c10)) ?_
            refine bk_b (q := (35, [(4, .int x9), (0, .ref 115), (1, .int l1), (2, .int l2), (3, .int l3)], [.int x9, .ref 115])) tb_c_99_0 mx_99 3 rfl ?_
            obtain ⟨x12, S11, c13, h⟩ := wd_cx h
            refine bk_kv tb_c_99_0 rfl rfl rfl rfl rfl (ci := 2) rfl rfl (ev_up (Nat.le_of_ble_eq_true rfl) (sn_Maker_isNumber c13)) ?_
            by_cases g14 : x12 = 0
            · rw [if_pos g14] at h
              refine bk_zt tb_c_99_0 rfl (pc' := 64) rfl (cm_eq_t g14) ?_
              exact go_lv (ls_sc rfl rfl (ls_sc rfl rfl (ls_sc rfl rfl (ls_sc rfl rfl ls_nil)))) (sn_Maker_gatherWanted_64 ih h)
            · rw [if_neg g14] at h
              refine bk_zf tb_c_99_0 rfl (pc' := 41) rfl (t := 64) rfl (cm_eq_f g14) ?_
              refine bk_b (q := (48, [(2, .int (l2 ||| ((1 : Int32) <<< (l3 &&& 31)))), (4, .int x9), (0, .ref 115), (1, .int l1), (3, .int l3)], [.ref 115])) tb_c_99_0 mx_99 7 rfl ?_
              refine bk_gc tb_c_99_0 rfl rfl (ci := 2) (k := 7) rfl rfl rfl ?_
              refine bk_b (q := (53, [(2, .int (l2 ||| ((1 : Int32) <<< (l3 &&& 31)))), (4, .int x9), (0, .ref 115), (1, .int l1), (3, .int l3)], [.ref 115, .int l3, .ref 120])) tb_c_99_0 mx_99 2 rfl ?_
              refine bk_gm tb_c_99_0 rfl rfl (ci := 2) (k := 4) rfl rfl rfl ?_
              by_cases g15 : tp_t (S11.2.2.1 115 4) = (0, 8)
              · rw [if_pos g15] at h
                refine bk_b (q := (58, [(2, .int (l2 ||| ((1 : Int32) <<< (l3 &&& 31)))), (4, .int x9), (0, .ref 115), (1, .int l1), (3, .int l3)], [.int x9, .ref (S11.2.2.1 115 4), .int l3, .ref 120])) tb_c_99_0 mx_99 1 rfl ?_
                obtain ⟨x17, S16, c18, h⟩ := wd_cx h
                refine bk_kv tb_c_99_0 rfl rfl rfl rfl rfl (ci := 8) g15 rfl (ev_up (Nat.le_of_ble_eq_true rfl) (sn_Trees_value g15 c18)) ?_
                obtain ⟨S19, c21, h⟩ := wd_dx h
                refine bk_kv tb_c_99_0 rfl rfl rfl rfl rfl (ci := 5) rfl rfl (ev_up (Nat.le_of_ble_eq_true rfl) (sn_Row_put rfl c21)) ?_
                exact go_lv (ls_sc rfl rfl (ls_sc rfl rfl (ls_sc rfl rfl (ls_sc rfl rfl ls_nil)))) (sn_Maker_gatherWanted_64 ih h)
              · rw [if_neg g15] at h; cases h
          · rw [if_neg g7] at h; cases h
        · rw [if_neg g6] at h
          refine bk_jt tb_c_99_0 rfl (pc' := 70) rfl (cm_ge_t g6) ?_
          exact go_lv (ls_sc rfl rfl ls_nil) (sn_Maker_gatherWanted_70 h)
      · rw [if_neg g2] at h; cases h
    · rw [if_neg g1] at h
      refine bk_jt tb_c_99_0 rfl (pc' := 70) rfl (cm_ge_t g1) ?_
      exact go_lv (ls_sc rfl rfl ls_nil) (sn_Maker_gatherWanted_70 h)
/-- Specialiser$Maker.gatherWanted(I)I -/
noncomputable def fn_Maker_gatherWanted (p1 : Int32) (S : wd_S) : Option (Int32 × wd_S) :=
  fn_Maker_gatherWanted_4 wd_F p1 (0 : Int32) (0 : Int32) S
set_option maxRecDepth 100000 in
theorem sn_Maker_gatherWanted {L : Nat} {xs : Nat → Int32} {p1 : Int32} {S : wd_S} {x : Int32} {S' : wd_S} (h : fn_Maker_gatherWanted p1 S = some (x, S')) : ev_r tb_P L xs (3 + 1) 99 [.ref 115, .int p1] (wd_k S) (.inl (some (.int x)), wd_k S') := by
  unfold fn_Maker_gatherWanted at h
  refine ev_of (Nat.le_of_ble_eq_true rfl) ?_
  show go_r tb_P L xs 3 99 0 [(0, .ref 115), (1, .int p1)] [] (wd_k S) (.inl (some (.int x)), wd_k S')
  refine bk_b (q := (4, [(3, .int (0 : Int32)), (2, .int (0 : Int32)), (0, .ref 115), (1, .int p1)], [])) tb_c_99_0 mx_99 4 rfl ?_
  exact go_lv (ls_sc rfl rfl (ls_sc rfl rfl (ls_sc rfl rfl (ls_sc rfl rfl ls_nil)))) (sn_Maker_gatherWanted_4 wd_F h)
theorem mx_101 : mi_mx tb_P 101 = 3 := rfl
/-- Specialiser$Runner.begin(II)V -/
noncomputable def fn_Runner_begin (p1 : Int32) (p2 : Int32) (S : wd_S) : Option wd_S :=
  (if (S.1 104 9) < (S.1 104 7) then
    (if (S.1 104 8) < (160 : Int32) then
      (wd_b (wd_i S 104 9 ((S.1 104 9) + (1 : Int32))) fun S3 =>
      (wd_b (wd_i S3 104 8 ((S3.1 104 8) + (1 : Int32))) fun S4 =>
      (wd_c (fn_Math_max (S4.1 104 10) (S4.1 104 8) S4) fun x6 S5 =>
      (wd_b (wd_i S5 104 10 x6) fun S8 =>
      (wd_d (fn_Row_put 105 (S8.1 104 8) p1 S8) fun S9 =>
      (wd_d (fn_Row_put 107 (S9.1 104 8) (0 : Int32) S9) fun S12 =>
      (wd_d (fn_Row_put 111 (S12.1 104 8) p2 S12) fun S15 =>
      some S15)))))))
    else
      (wd_b (wd_i S 104 12 (3 : Int32)) fun S18 =>
      some S18))
  else
    (wd_b (wd_i S 104 12 (2 : Int32)) fun S19 =>
    some S19))
set_option maxRecDepth 100000 in
theorem sn_Runner_begin {L : Nat} {xs : Nat → Int32} {p1 : Int32} {p2 : Int32} {S : wd_S} {S' : wd_S} (h : fn_Runner_begin p1 p2 S = some S') : ev_r tb_P L xs (1 + 1) 101 [.ref 104, .int p1, .int p2] (wd_k S) (.inl none, wd_k S') := by
  unfold fn_Runner_begin at h
  refine ev_of (Nat.le_of_ble_eq_true rfl) ?_
  show go_r tb_P L xs 1 101 0 [(0, .ref 104), (1, .int p1), (2, .int p2)] [] (wd_k S) (.inl none, wd_k S')
  refine bk_b (q := (1, [(0, .ref 104), (1, .int p1), (2, .int p2)], [.ref 104])) tb_c_101_0 mx_101 1 rfl ?_
  refine bk_gi tb_c_101_0 rfl rfl (ci := 6) (k := 9) rfl rfl rfl ?_
  refine bk_b (q := (5, [(0, .ref 104), (1, .int p1), (2, .int p2)], [.ref 104, .int (S.1 104 9)])) tb_c_101_0 mx_101 1 rfl ?_
  refine bk_gi tb_c_101_0 rfl rfl (ci := 6) (k := 7) rfl rfl rfl ?_
  by_cases g1 : (S.1 104 9) < (S.1 104 7)
  · rw [if_pos g1] at h
    refine bk_jt tb_c_101_0 rfl (pc' := 17) rfl (cm_lt_t g1) ?_
    refine bk_b (q := (18, [(0, .ref 104), (1, .int p1), (2, .int p2)], [.ref 104])) tb_c_101_0 mx_101 1 rfl ?_
    refine bk_gi tb_c_101_0 rfl rfl (ci := 6) (k := 8) rfl rfl rfl ?_
    refine bk_b (q := (24, [(0, .ref 104), (1, .int p1), (2, .int p2)], [.int (160 : Int32), .int (S.1 104 8)])) tb_c_101_0 mx_101 1 rfl ?_
    by_cases g2 : (S.1 104 8) < (160 : Int32)
    · rw [if_pos g2] at h
      refine bk_jt tb_c_101_0 rfl (pc' := 33) rfl (cm_lt_t g2) ?_
      refine bk_b (q := (35, [(0, .ref 104), (1, .int p1), (2, .int p2)], [.ref 104, .ref 104])) tb_c_101_0 mx_101 2 rfl ?_
      refine bk_gi tb_c_101_0 rfl rfl (ci := 6) (k := 9) rfl rfl rfl ?_
      refine bk_b (q := (40, [(0, .ref 104), (1, .int p1), (2, .int p2)], [.int ((S.1 104 9) + (1 : Int32)), .ref 104])) tb_c_101_0 mx_101 2 rfl ?_
      obtain ⟨S3, eS3, h⟩ := wd_bx h
      refine bk_pi tb_c_101_0 rfl rfl (ci := 6) (k := 9) rfl rfl rfl rfl ?_
      rw [eS3]
      refine bk_b (q := (45, [(0, .ref 104), (1, .int p1), (2, .int p2)], [.ref 104, .ref 104])) tb_c_101_0 mx_101 2 rfl ?_
      refine bk_gi tb_c_101_0 rfl rfl (ci := 6) (k := 8) rfl rfl rfl ?_
      refine bk_b (q := (50, [(0, .ref 104), (1, .int p1), (2, .int p2)], [.int ((S3.1 104 8) + (1 : Int32)), .ref 104])) tb_c_101_0 mx_101 2 rfl ?_
      obtain ⟨S4, eS4, h⟩ := wd_bx h
      refine bk_pi tb_c_101_0 rfl rfl (ci := 6) (k := 8) rfl rfl rfl rfl ?_
      rw [eS4]
      refine bk_b (q := (55, [(0, .ref 104), (1, .int p1), (2, .int p2)], [.ref 104, .ref 104])) tb_c_101_0 mx_101 2 rfl ?_
      refine bk_gi tb_c_101_0 rfl rfl (ci := 6) (k := 10) rfl rfl rfl ?_
      refine bk_b (q := (59, [(0, .ref 104), (1, .int p1), (2, .int p2)], [.ref 104, .int (S4.1 104 10), .ref 104])) tb_c_101_0 mx_101 1 rfl ?_
      refine bk_gi tb_c_101_0 rfl rfl (ci := 6) (k := 8) rfl rfl rfl ?_
      obtain ⟨x6, S5, c7, h⟩ := wd_cx h
      refine bk_ks tb_c_101_0 rfl rfl rfl (by decide) rfl rfl (ev_up (Nat.le_of_ble_eq_true rfl) (sn_Math_max c7)) ?_
      obtain ⟨S8, eS8, h⟩ := wd_bx h
      refine bk_pi tb_c_101_0 rfl rfl (ci := 6) (k := 10) rfl rfl rfl rfl ?_
      rw [eS8]
      refine bk_b (q := (69, [(0, .ref 104), (1, .int p1), (2, .int p2)], [.ref 104])) tb_c_101_0 mx_101 1 rfl ?_
      refine bk_gc tb_c_101_0 rfl rfl (ci := 6) (k := 0) rfl rfl rfl ?_
      refine bk_b (q := (73, [(0, .ref 104), (1, .int p1), (2, .int p2)], [.ref 104, .ref 105])) tb_c_101_0 mx_101 1 rfl ?_
      refine bk_gi tb_c_101_0 rfl rfl (ci := 6) (k := 8) rfl rfl rfl ?_
      refine bk_b (q := (77, [(0, .ref 104), (1, .int p1), (2, .int p2)], [.int p1, .int (S8.1 104 8), .ref 105])) tb_c_101_1 mx_101 1 rfl ?_
      obtain ⟨S9, c11, h⟩ := wd_dx h
      refine bk_kv tb_c_101_1 rfl rfl rfl rfl rfl (ci := 5) rfl rfl (ev_up (Nat.le_of_ble_eq_true rfl) (sn_Row_put rfl c11)) ?_
      refine bk_b (q := (81, [(0, .ref 104), (1, .int p1), (2, .int p2)], [.ref 104])) tb_c_101_1 mx_101 1 rfl ?_
      refine bk_gc tb_c_101_1 rfl rfl (ci := 6) (k := 1) rfl rfl rfl ?_
      refine bk_b (q := (85, [(0, .ref 104), (1, .int p1), (2, .int p2)], [.ref 104, .ref 107])) tb_c_101_1 mx_101 1 rfl ?_
      refine bk_gi tb_c_101_1 rfl rfl (ci := 6) (k := 8) rfl rfl rfl ?_
      refine bk_b (q := (89, [(0, .ref 104), (1, .int p1), (2, .int p2)], [.int (0 : Int32), .int (S9.1 104 8), .ref 107])) tb_c_101_1 mx_101 1 rfl ?_
      obtain ⟨S12, c14, h⟩ := wd_dx h
      refine bk_kv tb_c_101_1 rfl rfl rfl rfl rfl (ci := 5) rfl rfl (ev_up (Nat.le_of_ble_eq_true rfl) (sn_Row_put rfl c14)) ?_
      refine bk_b (q := (93, [(0, .ref 104), (1, .int p1), (2, .int p2)], [.ref 104])) tb_c_101_1 mx_101 1 rfl ?_
      refine bk_gc tb_c_101_1 rfl rfl (ci := 6) (k := 3) rfl rfl rfl ?_
      refine bk_b (q := (97, [(0, .ref 104), (1, .int p1), (2, .int p2)], [.ref 104, .ref 111])) tb_c_101_1 mx_101 1 rfl ?_
      refine bk_gi tb_c_101_1 rfl rfl (ci := 6) (k := 8) rfl rfl rfl ?_
      refine bk_b (q := (101, [(0, .ref 104), (1, .int p1), (2, .int p2)], [.int p2, .int (S12.1 104 8), .ref 111])) tb_c_101_1 mx_101 1 rfl ?_
      obtain ⟨S15, c17, h⟩ := wd_dx h
      refine bk_kv tb_c_101_1 rfl rfl rfl rfl rfl (ci := 5) rfl rfl (ev_up (Nat.le_of_ble_eq_true rfl) (sn_Row_put rfl c17)) ?_
      cases h
      exact bk_t tb_c_101_1 rfl rfl
    · rw [if_neg g2] at h
      refine bk_jf tb_c_101_0 rfl (pc' := 27) rfl (t := 33) rfl (cm_lt_f g2) ?_
      refine bk_b (q := (29, [(0, .ref 104), (1, .int p1), (2, .int p2)], [.int (3 : Int32), .ref 104])) tb_c_101_0 mx_101 2 rfl ?_
      obtain ⟨S18, eS18, h⟩ := wd_bx h
      refine bk_pi tb_c_101_0 rfl rfl (ci := 6) (k := 12) rfl rfl rfl rfl ?_
      rw [eS18]
      cases h
      exact bk_t tb_c_101_0 rfl rfl
  · rw [if_neg g1] at h
    refine bk_jf tb_c_101_0 rfl (pc' := 11) rfl (t := 17) rfl (cm_lt_f g1) ?_
    refine bk_b (q := (13, [(0, .ref 104), (1, .int p1), (2, .int p2)], [.int (2 : Int32), .ref 104])) tb_c_101_0 mx_101 2 rfl ?_
    obtain ⟨S19, eS19, h⟩ := wd_bx h
    refine bk_pi tb_c_101_0 rfl rfl (ci := 6) (k := 12) rfl rfl rfl rfl ?_
    rw [eS19]
    cases h
    exact bk_t tb_c_101_0 rfl rfl
theorem mx_102 : mi_mx tb_P 102 = 2 := rfl
noncomputable def fn_Runner_finish_27 (S : wd_S) : Option wd_S :=
  some S
set_option maxRecDepth 100000 in
theorem sn_Runner_finish_27 {L : Nat} {xs : Nat → Int32} {S : wd_S} {S' : wd_S} (h : fn_Runner_finish_27  S = some S') : go_r tb_P L xs 0 102 27 [] [] (wd_k S) (.inl none, wd_k S') := by
  unfold fn_Runner_finish_27 at h
  cases h
  exact bk_t tb_c_102_0 rfl rfl
/-- Specialiser$Runner.finish(I)V -/
noncomputable def fn_Runner_finish (p1 : Int32) (S : wd_S) : Option wd_S :=
  (wd_b (wd_i S 104 11 p1) fun S1 =>
  (wd_b (wd_i S1 104 8 ((S1.1 104 8) - (1 : Int32))) fun S2 =>
  (if (S2.1 104 8) = 0 then
    (wd_b (wd_i S2 104 12 (1 : Int32)) fun S4 =>
    fn_Runner_finish_27  S4)
  else
    fn_Runner_finish_27  S2)))
set_option maxRecDepth 100000 in
theorem sn_Runner_finish {L : Nat} {xs : Nat → Int32} {p1 : Int32} {S : wd_S} {S' : wd_S} (h : fn_Runner_finish p1 S = some S') : ev_r tb_P L xs (0 + 1) 102 [.ref 104, .int p1] (wd_k S) (.inl none, wd_k S') := by
  unfold fn_Runner_finish at h
  refine ev_of (Nat.le_of_ble_eq_true rfl) ?_
  show go_r tb_P L xs 0 102 0 [(0, .ref 104), (1, .int p1)] [] (wd_k S) (.inl none, wd_k S')
  refine bk_b (q := (2, [(0, .ref 104), (1, .int p1)], [.int p1, .ref 104])) tb_c_102_0 mx_102 2 rfl ?_
  obtain ⟨S1, eS1, h⟩ := wd_bx h
  refine bk_pi tb_c_102_0 rfl rfl (ci := 6) (k := 11) rfl rfl rfl rfl ?_
  rw [eS1]
  refine bk_b (q := (7, [(0, .ref 104), (1, .int p1)], [.ref 104, .ref 104])) tb_c_102_0 mx_102 2 rfl ?_
  refine bk_gi tb_c_102_0 rfl rfl (ci := 6) (k := 8) rfl rfl rfl ?_
  refine bk_b (q := (12, [(0, .ref 104), (1, .int p1)], [.int ((S1.1 104 8) - (1 : Int32)), .ref 104])) tb_c_102_0 mx_102 2 rfl ?_
  obtain ⟨S2, eS2, h⟩ := wd_bx h
  refine bk_pi tb_c_102_0 rfl rfl (ci := 6) (k := 8) rfl rfl rfl rfl ?_
  rw [eS2]
  refine bk_b (q := (16, [(0, .ref 104), (1, .int p1)], [.ref 104])) tb_c_102_0 mx_102 1 rfl ?_
  refine bk_gi tb_c_102_0 rfl rfl (ci := 6) (k := 8) rfl rfl rfl ?_
  by_cases g3 : (S2.1 104 8) = 0
  · rw [if_pos g3] at h
    refine bk_zf tb_c_102_0 rfl (pc' := 22) rfl (t := 27) rfl (cm_ne_f g3) ?_
    refine bk_b (q := (24, [(0, .ref 104), (1, .int p1)], [.int (1 : Int32), .ref 104])) tb_c_102_0 mx_102 2 rfl ?_
    obtain ⟨S4, eS4, h⟩ := wd_bx h
    refine bk_pi tb_c_102_0 rfl rfl (ci := 6) (k := 12) rfl rfl rfl rfl ?_
    rw [eS4]
    exact go_lv ls_nil (sn_Runner_finish_27 h)
  · rw [if_neg g3] at h
    refine bk_zt tb_c_102_0 rfl (pc' := 27) rfl (cm_ne_t g3) ?_
    exact go_lv ls_nil (sn_Runner_finish_27 h)
theorem mx_103 : mi_mx tb_P 103 = 2 := rfl
/-- Specialiser$Runner.slot(I)I -/
noncomputable def fn_Runner_slot (p1 : Int32) (S : wd_S) : Option (Int32 × wd_S) :=
  (wd_c (fn_Row_at 111 (S.1 104 8) S) fun x2 S1 =>
  some (((x2 * (16 : Int32)) + p1), S1))
set_option maxRecDepth 100000 in
theorem sn_Runner_slot {L : Nat} {xs : Nat → Int32} {p1 : Int32} {S : wd_S} {x : Int32} {S' : wd_S} (h : fn_Runner_slot p1 S = some (x, S')) : ev_r tb_P L xs (1 + 1) 103 [.ref 104, .int p1] (wd_k S) (.inl (some (.int x)), wd_k S') := by
  unfold fn_Runner_slot at h
  refine ev_of (Nat.le_of_ble_eq_true rfl) ?_
  show go_r tb_P L xs 1 103 0 [(0, .ref 104), (1, .int p1)] [] (wd_k S) (.inl (some (.int x)), wd_k S')
  refine bk_b (q := (1, [(0, .ref 104), (1, .int p1)], [.ref 104])) tb_c_103_0 mx_103 1 rfl ?_
  refine bk_gc tb_c_103_0 rfl rfl (ci := 6) (k := 3) rfl rfl rfl ?_
  refine bk_b (q := (5, [(0, .ref 104), (1, .int p1)], [.ref 104, .ref 111])) tb_c_103_0 mx_103 1 rfl ?_
  refine bk_gi tb_c_103_0 rfl rfl (ci := 6) (k := 8) rfl rfl rfl ?_
  obtain ⟨x2, S1, c3, h⟩ := wd_cx h
  refine bk_kv tb_c_103_0 rfl rfl rfl rfl rfl (ci := 5) rfl rfl (ev_up (Nat.le_of_ble_eq_true rfl) (sn_Row_at rfl c3)) ?_
  refine bk_b (q := (16, [(0, .ref 104), (1, .int p1)], [.int ((x2 * (16 : Int32)) + p1)])) tb_c_103_0 mx_103 4 rfl ?_
  cases h
  exact bk_t tb_c_103_0 rfl rfl
theorem mx_104 : mi_mx tb_P 104 = 3 := rfl
noncomputable def fn_Runner_goOnLet_94 (S : wd_S) : Option wd_S :=
  some S
set_option maxRecDepth 100000 in
theorem sn_Runner_goOnLet_94 {L : Nat} {xs : Nat → Int32} {S : wd_S} {S' : wd_S} (h : fn_Runner_goOnLet_94  S = some S') : go_r tb_P L xs 2 104 94 [] [] (wd_k S) (.inl none, wd_k S') := by
  unfold fn_Runner_goOnLet_94 at h
  cases h
  exact bk_t tb_c_104_1 rfl rfl
/-- Specialiser$Runner.goOnLet(II)V -/
noncomputable def fn_Runner_goOnLet (p1 : Int32) (p2 : Int32) (S : wd_S) : Option wd_S :=
  (if p2 = 0 then
    (if tp_t (S.2.2.1 104 6) = (0, 8) then
      (wd_c (fn_Trees_part (S.2.2.1 104 6) p1 (0 : Int32) S) fun x28 S27 =>
      (wd_c (fn_Row_at 111 (S27.1 104 8) S27) fun x31 S30 =>
      (wd_d (fn_Runner_begin x28 x31 S30) fun S33 =>
      fn_Runner_goOnLet_94  S33)))
    else none)
  else
    (if p2 = (1 : Int32) then
      (if tp_t (S.2.2.1 104 6) = (0, 8) then
        (wd_c (fn_Trees_value (S.2.2.1 104 6) p1 S) fun x8 S7 =>
        (wd_c (fn_Runner_slot x8 S7) fun x11 S10 =>
        (wd_d (fn_Row_put 113 x11 (S10.1 104 11) S10) fun S13 =>
        (if tp_t (S13.2.2.1 104 6) = (0, 8) then
          (wd_c (fn_Trees_part (S13.2.2.1 104 6) p1 (1 : Int32) S13) fun x18 S17 =>
          (wd_c (fn_Row_at 111 (S17.1 104 8) S17) fun x21 S20 =>
          (wd_d (fn_Runner_begin x18 x21 S20) fun S23 =>
          fn_Runner_goOnLet_94  S23)))
        else none))))
      else none)
    else
      (wd_d (fn_Runner_finish (S.1 104 11) S) fun S3 =>
      fn_Runner_goOnLet_94  S3)))
set_option maxRecDepth 100000 in
theorem sn_Runner_goOnLet {L : Nat} {xs : Nat → Int32} {p1 : Int32} {p2 : Int32} {S : wd_S} {S' : wd_S} (h : fn_Runner_goOnLet p1 p2 S = some S') : ev_r tb_P L xs (2 + 1) 104 [.ref 104, .int p1, .int p2] (wd_k S) (.inl none, wd_k S') := by
  unfold fn_Runner_goOnLet at h
  refine ev_of (Nat.le_of_ble_eq_true rfl) ?_
  show go_r tb_P L xs 2 104 0 [(0, .ref 104), (1, .int p1), (2, .int p2)] [] (wd_k S) (.inl none, wd_k S')
  refine bk_b (q := (1, [(0, .ref 104), (1, .int p1), (2, .int p2)], [.int p2])) tb_c_104_0 mx_104 1 rfl ?_
  by_cases g1 : p2 = 0
  · rw [if_pos g1] at h
    refine bk_zf tb_c_104_0 rfl (pc' := 4) rfl (t := 31) rfl (cm_ne_f g1) ?_
    refine bk_b (q := (6, [(0, .ref 104), (1, .int p1), (2, .int p2)], [.ref 104, .ref 104])) tb_c_104_0 mx_104 2 rfl ?_
    refine bk_gm tb_c_104_0 rfl rfl (ci := 6) (k := 6) rfl rfl rfl ?_
    by_cases g26 : tp_t (S.2.2.1 104 6) = (0, 8)
    · rw [if_pos g26] at h
      refine bk_b (q := (11, [(0, .ref 104), (1, .int p1), (2, .int p2)], [.int (0 : Int32), .int p1, .ref (S.2.2.1 104 6), .ref 104])) tb_c_104_0 mx_104 2 rfl ?_
      obtain ⟨x28, S27, c29, h⟩ := wd_cx h
      refine bk_kv tb_c_104_0 rfl rfl rfl rfl rfl (ci := 8) g26 rfl (ev_up (Nat.le_of_ble_eq_true rfl) (sn_Trees_part g26 c29)) ?_
      refine bk_b (q := (15, [(0, .ref 104), (1, .int p1), (2, .int p2)], [.ref 104, .int x28, .ref 104])) tb_c_104_0 mx_104 1 rfl ?_
      refine bk_gc tb_c_104_0 rfl rfl (ci := 6) (k := 3) rfl rfl rfl ?_
      refine bk_b (q := (19, [(0, .ref 104), (1, .int p1), (2, .int p2)], [.ref 104, .ref 111, .int x28, .ref 104])) tb_c_104_0 mx_104 1 rfl ?_
      refine bk_gi tb_c_104_0 rfl rfl (ci := 6) (k := 8) rfl rfl rfl ?_
      obtain ⟨x31, S30, c32, h⟩ := wd_cx h
      refine bk_kv tb_c_104_0 rfl rfl rfl rfl rfl (ci := 5) rfl rfl (ev_up (Nat.le_of_ble_eq_true rfl) (sn_Row_at rfl c32)) ?_
      obtain ⟨S33, c35, h⟩ := wd_dx h
      refine bk_kv tb_c_104_0 rfl rfl rfl rfl rfl (ci := 6) rfl rfl (ev_up (Nat.le_of_ble_eq_true rfl) (sn_Runner_begin c35)) ?_
      refine bk_b (q := (94, [(0, .ref 104), (1, .int p1), (2, .int p2)], [])) tb_c_104_0 mx_104 1 rfl ?_
      exact go_lv ls_nil (sn_Runner_goOnLet_94 h)
    · rw [if_neg g26] at h; cases h
  · rw [if_neg g1] at h
    refine bk_zt tb_c_104_0 rfl (pc' := 31) rfl (cm_ne_t g1) ?_
    refine bk_b (q := (33, [(0, .ref 104), (1, .int p1), (2, .int p2)], [.int (1 : Int32), .int p2])) tb_c_104_0 mx_104 2 rfl ?_
    by_cases g2 : p2 = (1 : Int32)
    · rw [if_pos g2] at h
      refine bk_jf tb_c_104_0 rfl (pc' := 36) rfl (t := 86) rfl (cm_ne_f g2) ?_
      refine bk_b (q := (37, [(0, .ref 104), (1, .int p1), (2, .int p2)], [.ref 104])) tb_c_104_0 mx_104 1 rfl ?_
      refine bk_gc tb_c_104_0 rfl rfl (ci := 6) (k := 4) rfl rfl rfl ?_
      refine bk_b (q := (42, [(0, .ref 104), (1, .int p1), (2, .int p2)], [.ref 104, .ref 104, .ref 113])) tb_c_104_0 mx_104 2 rfl ?_
      refine bk_gm tb_c_104_0 rfl rfl (ci := 6) (k := 6) rfl rfl rfl ?_
      by_cases g6 : tp_t (S.2.2.1 104 6) = (0, 8)
      · rw [if_pos g6] at h
        refine bk_b (q := (46, [(0, .ref 104), (1, .int p1), (2, .int p2)], [.int p1, .ref (S.2.2.1 104 6), .ref 104, .ref 113])) tb_c_104_0 mx_104 1 rfl ?_
        obtain ⟨x8, S7, c9, h⟩ := wd_cx h
        refine bk_kv tb_c_104_0 rfl rfl rfl rfl rfl (ci := 8) g6 rfl (ev_up (Nat.le_of_ble_eq_true rfl) (sn_Trees_value g6 c9)) ?_
        obtain ⟨x11, S10, c12, h⟩ := wd_cx h
        refine bk_kv tb_c_104_0 rfl rfl rfl rfl rfl (ci := 6) rfl rfl (ev_up (Nat.le_of_ble_eq_true rfl) (sn_Runner_slot c12)) ?_
        refine bk_b (q := (53, [(0, .ref 104), (1, .int p1), (2, .int p2)], [.ref 104, .int x11, .ref 113])) tb_c_104_0 mx_104 1 rfl ?_
        refine bk_gi tb_c_104_0 rfl rfl (ci := 6) (k := 11) rfl rfl rfl ?_
        obtain ⟨S13, c15, h⟩ := wd_dx h
        refine bk_kv tb_c_104_0 rfl rfl rfl rfl rfl (ci := 5) rfl rfl (ev_up (Nat.le_of_ble_eq_true rfl) (sn_Row_put rfl c15)) ?_
        refine bk_b (q := (61, [(0, .ref 104), (1, .int p1), (2, .int p2)], [.ref 104, .ref 104])) tb_c_104_0 mx_104 2 rfl ?_
        refine bk_gm tb_c_104_0 rfl rfl (ci := 6) (k := 6) rfl rfl rfl ?_
        by_cases g16 : tp_t (S13.2.2.1 104 6) = (0, 8)
        · rw [if_pos g16] at h
          refine bk_b (q := (66, [(0, .ref 104), (1, .int p1), (2, .int p2)], [.int (1 : Int32), .int p1, .ref (S13.2.2.1 104 6), .ref 104])) tb_c_104_0 mx_104 2 rfl ?_
          obtain ⟨x18, S17, c19, h⟩ := wd_cx h
          refine bk_kv tb_c_104_0 rfl rfl rfl rfl rfl (ci := 8) g16 rfl (ev_up (Nat.le_of_ble_eq_true rfl) (sn_Trees_part g16 c19)) ?_
          refine bk_b (q := (70, [(0, .ref 104), (1, .int p1), (2, .int p2)], [.ref 104, .int x18, .ref 104])) tb_c_104_0 mx_104 1 rfl ?_
          refine bk_gc tb_c_104_0 rfl rfl (ci := 6) (k := 3) rfl rfl rfl ?_
          refine bk_b (q := (74, [(0, .ref 104), (1, .int p1), (2, .int p2)], [.ref 104, .ref 111, .int x18, .ref 104])) tb_c_104_0 mx_104 1 rfl ?_
          refine bk_gi tb_c_104_0 rfl rfl (ci := 6) (k := 8) rfl rfl rfl ?_
          obtain ⟨x21, S20, c22, h⟩ := wd_cx h
          refine bk_kv tb_c_104_0 rfl rfl rfl rfl rfl (ci := 5) rfl rfl (ev_up (Nat.le_of_ble_eq_true rfl) (sn_Row_at rfl c22)) ?_
          obtain ⟨S23, c25, h⟩ := wd_dx h
          refine bk_kv tb_c_104_1 rfl rfl rfl rfl rfl (ci := 6) rfl rfl (ev_up (Nat.le_of_ble_eq_true rfl) (sn_Runner_begin c25)) ?_
          refine bk_b (q := (94, [(0, .ref 104), (1, .int p1), (2, .int p2)], [])) tb_c_104_1 mx_104 1 rfl ?_
          exact go_lv ls_nil (sn_Runner_goOnLet_94 h)
        · rw [if_neg g16] at h; cases h
      · rw [if_neg g6] at h; cases h
    · rw [if_neg g2] at h
      refine bk_jt tb_c_104_0 rfl (pc' := 86) rfl (cm_ne_t g2) ?_
      refine bk_b (q := (88, [(0, .ref 104), (1, .int p1), (2, .int p2)], [.ref 104, .ref 104])) tb_c_104_1 mx_104 2 rfl ?_
      refine bk_gi tb_c_104_1 rfl rfl (ci := 6) (k := 11) rfl rfl rfl ?_
      obtain ⟨S3, c5, h⟩ := wd_dx h
      refine bk_kv tb_c_104_1 rfl rfl rfl rfl rfl (ci := 6) rfl rfl (ev_up (Nat.le_of_ble_eq_true rfl) (sn_Runner_finish c5)) ?_
      exact go_lv ls_nil (sn_Runner_goOnLet_94 h)
