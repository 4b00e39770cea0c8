/-! Methods as functions: printed by wip/whole/gen_fn.py. -/
theorem mx_122 : mi_mx tb_P 122 = 2 := rfl
noncomputable def fn_Versions_isNumber_27 (s0 : Int32) (S : wd_S) : Option (Int32 × wd_S) :=
  (if mi_fit .boolean (.int s0) = true then some (s0, S) else none)
set_option maxRecDepth 100000 in
theorem sn_Versions_isNumber_27 {L : Nat} {xs : Nat → Int32} {s0 : Int32} {S : wd_S} {x : Int32} {S' : wd_S} (h : fn_Versions_isNumber_27 s0 S = some (x, S')) : go_r tb_P L xs 2 122 27 [] [.int s0] (wd_k S) (.inl (some (.int x)), wd_k S') := by
  unfold fn_Versions_isNumber_27 at h
  by_cases g12 : mi_fit .boolean (.int s0) = true
  · rw [if_pos g12] at h
    cases h
    exact bk_t tb_c_122_0 rfl (if_pos g12)
  · rw [if_neg g12] at h; cases h
/-- Specialiser$Versions.isNumber(I)Z -/
noncomputable def fn_Versions_isNumber (p0 : Nat) (p1 : Int32) (S : wd_S) : Option (Int32 × wd_S) :=
  (wd_c (fn_Bodies_trees (p0 + 1) S) fun x2 S1 => if tp_t x2 = (0, 8) then
    (wd_c (fn_Bodies_root (p0 + 1) p1 S1) fun x6 S5 =>
    (wd_c (fn_Trees_kind x2 x6 S5) fun x9 S8 =>
    (if x9 = (1 : Int32) then
      fn_Versions_isNumber_27 (1 : Int32) S8
    else
      fn_Versions_isNumber_27 (0 : Int32) S8)))
  else none)
set_option maxRecDepth 100000 in
theorem sn_Versions_isNumber {L : Nat} {xs : Nat → Int32} {p0 : Nat} {p1 : Int32} {S : wd_S} {x : Int32} {S' : wd_S} (hp0 : tp_t p0 = (0, 9)) (h : fn_Versions_isNumber p0 p1 S = some (x, S')) : ev_r tb_P L xs (2 + 1) 122 [.ref p0, .int p1] (wd_k S) (.inl (some (.int x)), wd_k S') := by
  unfold fn_Versions_isNumber at h
  refine ev_of (Nat.le_of_ble_eq_true rfl) ?_
  show go_r tb_P L xs 2 122 0 [(0, .ref p0), (1, .int p1)] [] (wd_k S) (.inl (some (.int x)), wd_k S')
  refine bk_b (q := (1, [(0, .ref p0), (1, .int p1)], [.ref p0])) tb_c_122_0 mx_122 1 rfl ?_
  refine bk_go tb_c_122_0 rfl rfl (ci := 9) (k := 0) rfl hp0 rfl ?_
  obtain ⟨x2, S1, c3, h⟩ := wd_cx h
  by_cases g4 : tp_t x2 = (0, 8)
  · rw [if_pos g4] at h
    refine bk_kv tb_c_122_0 rfl rfl rfl rfl rfl (ci := 0) (tp_9_0 hp0) rfl (ev_up (Nat.le_of_ble_eq_true rfl) (sn_Bodies_trees (tp_9_0 hp0) c3)) ?_
    refine bk_b (q := (8, [(0, .ref p0), (1, .int p1)], [.ref p0, .ref x2])) tb_c_122_0 mx_122 1 rfl ?_
    refine bk_go tb_c_122_0 rfl rfl (ci := 9) (k := 0) rfl hp0 rfl ?_
    refine bk_b (q := (12, [(0, .ref p0), (1, .int p1)], [.int p1, .ref (p0 + 1), .ref x2])) tb_c_122_0 mx_122 1 rfl ?_
    obtain ⟨x6, S5, c7, h⟩ := wd_cx h
    refine bk_kv tb_c_122_0 rfl rfl rfl rfl rfl (ci := 0) (tp_9_0 hp0) rfl (ev_up (Nat.le_of_ble_eq_true rfl) (sn_Bodies_root (tp_9_0 hp0) c7)) ?_
    obtain ⟨x9, S8, c10, h⟩ := wd_cx h
    refine bk_kv tb_c_122_0 rfl rfl rfl rfl rfl (ci := 8) g4 rfl (ev_up (Nat.le_of_ble_eq_true rfl) (sn_Trees_kind g4 c10)) ?_
    refine bk_b (q := (19, [(0, .ref p0), (1, .int p1)], [.int (1 : Int32), .int x9])) tb_c_122_0 mx_122 1 rfl ?_
    by_cases g11 : x9 = (1 : Int32)
    · rw [if_pos g11] at h
      refine bk_jf tb_c_122_0 rfl (pc' := 22) rfl (t := 26) rfl (cm_ne_f g11) ?_
      refine bk_b (q := (27, [(0, .ref p0), (1, .int p1)], [.int (1 : Int32)])) tb_c_122_0 mx_122 2 rfl ?_
      exact go_lv ls_nil (sn_Versions_isNumber_27 h)
    · rw [if_neg g11] at h
      refine bk_jt tb_c_122_0 rfl (pc' := 26) rfl (cm_ne_t g11) ?_
      refine bk_b (q := (27, [(0, .ref p0), (1, .int p1)], [.int (0 : Int32)])) tb_c_122_0 mx_122 1 rfl ?_
      exact go_lv ls_nil (sn_Versions_isNumber_27 h)
  · rw [if_neg g4] at h; cases h
theorem mx_121 : mi_mx tb_P 121 = 3 := rfl
noncomputable def fn_Sp_version_24 (S : wd_S) : Option ((Int32 ⊕ String) × wd_S) :=
  some (.inr "java/lang/IndexOutOfBoundsException", wd_n S)
set_option maxRecDepth 100000 in
theorem sn_Sp_version_24 {L : Nat} {xs : Nat → Int32} {S : wd_S} {x : Int32 ⊕ String} {S' : wd_S} (h : fn_Sp_version_24  S = some (x, S')) : go_r tb_P L xs 3 121 24 [] [] (wd_k S) (wd_wi x, wd_k S') := by
  unfold fn_Sp_version_24 at h
  cases h
  exact bk_x rfl
noncomputable def fn_Sp_version_142 (s0 : Int32) (S : wd_S) : Option ((Int32 ⊕ String) × wd_S) :=
  some (.inl s0, S)
set_option maxRecDepth 100000 in
theorem sn_Sp_version_142 {L : Nat} {xs : Nat → Int32} {s0 : Int32} {S : wd_S} {x : Int32 ⊕ String} {S' : wd_S} (h : fn_Sp_version_142 s0 S = some (x, S')) : go_r tb_P L xs 3 121 142 [] [.int s0] (wd_k S) (wd_wi x, wd_k S') := by
  unfold fn_Sp_version_142 at h
  cases h
  exact bk_t tb_c_121_1 rfl rfl
/-- Specialiser.version(II)I -/
noncomputable def fn_Sp_version (p1 : Int32) (p2 : Int32) (S : wd_S) : Option ((Int32 ⊕ String) × wd_S) :=
  (if tp_t (S.2.2.1 1 7) = (0, 9) then
    (wd_c (fn_Versions_bodies (S.2.2.1 1 7) S) fun x3 S2 => if tp_t x3 = (0, 0) then
      (wd_c (fn_Bodies_has x3 p1 S2) fun x7 S6 =>
      (if x7 = 0 then
        fn_Sp_version_24  S6
      else
        (if p2 < 0 then
          fn_Sp_version_24  S6
        else
          (if (9 : Int32) < p2 then
            fn_Sp_version_24  S6
          else
            (if p2 = (0 : Int32) then
              (if tp_t (S6.2.2.1 1 7) = (0, 9) then
                (wd_c (fn_Versions_functionOf (S6.2.2.1 1 7) p1 S6) fun x15 S14 =>
                some (.inl x15, S14))
              else none)
            else
            (if p2 = (1 : Int32) then
              (if tp_t (S6.2.2.1 1 7) = (0, 9) then
                (wd_c (fn_Versions_mask (S6.2.2.1 1 7) p1 S6) fun x20 S19 =>
                some (.inl x20, S19))
              else none)
            else
            (if p2 = (2 : Int32) then
              (if tp_t (S6.2.2.1 1 7) = (0, 9) then
                (wd_c (fn_Versions_bodies (S6.2.2.1 1 7) S6) fun x25 S24 => if tp_t x25 = (0, 0) then
                  (wd_c (fn_Bodies_params x25 p1 S24) fun x29 S28 =>
                  some (.inl x29, S28))
                else none)
              else none)
            else
            (if p2 = (3 : Int32) then
              (if tp_t (S6.2.2.1 1 7) = (0, 9) then
                (wd_c (fn_Versions_bodies (S6.2.2.1 1 7) S6) fun x34 S33 => if tp_t x34 = (0, 0) then
                  (wd_c (fn_Bodies_expressions x34 p1 S33) fun x38 S37 =>
                  some (.inl x38, S37))
                else none)
              else none)
            else
            (if p2 = (4 : Int32) then
              (if tp_t (S6.2.2.1 1 7) = (0, 9) then
                (wd_c (fn_Versions_bodies (S6.2.2.1 1 7) S6) fun x43 S42 => if tp_t x43 = (0, 0) then
                  (wd_c (fn_Bodies_lets x43 p1 S42) fun x47 S46 =>
                  some (.inl x47, S46))
                else none)
              else none)
            else
            (if p2 = (5 : Int32) then
              (if tp_t (S6.2.2.1 1 7) = (0, 9) then
                (wd_c (fn_Versions_isNumber (S6.2.2.1 1 7) p1 S6) fun x52 S51 =>
                (if x52 = 0 then
                  fn_Sp_version_142 (0 : Int32) S51
                else
                  fn_Sp_version_142 (1 : Int32) S51))
              else none)
            else
            (if tp_t (S6.2.2.1 1 7) = (0, 9) then
              (wd_c (fn_Versions_number (S6.2.2.1 1 7) p1 (p2 - (6 : Int32)) S6) fun x57 S56 =>
              some (.inl x57, S56))
            else none)))))))))))
    else none)
  else none)
set_option maxRecDepth 100000 in
theorem sn_Sp_version {L : Nat} {xs : Nat → Int32} {p1 : Int32} {p2 : Int32} {S : wd_S} {x : Int32 ⊕ String} {S' : wd_S} (h : fn_Sp_version p1 p2 S = some (x, S')) : ev_r tb_P L xs (3 + 1) 121 [.ref 1, .int p1, .int p2] (wd_k S) (wd_wi x, wd_k S') := by
  unfold fn_Sp_version at h
  refine ev_of (Nat.le_of_ble_eq_true rfl) ?_
  show go_r tb_P L xs 3 121 0 [(0, .ref 1), (1, .int p1), (2, .int p2)] [] (wd_k S) (wd_wi x, wd_k S')
  refine bk_b (q := (1, [(0, .ref 1), (1, .int p1), (2, .int p2)], [.ref 1])) tb_c_121_0 mx_121 1 rfl ?_
  refine bk_gm tb_c_121_0 rfl rfl (ci := 10) (k := 7) rfl rfl rfl ?_
  by_cases g1 : tp_t (S.2.2.1 1 7) = (0, 9)
  · rw [if_pos g1] at h
    obtain ⟨x3, S2, c4, h⟩ := wd_cx h
    by_cases g5 : tp_t x3 = (0, 0)
    · rw [if_pos g5] at h
      refine bk_kv tb_c_121_0 rfl rfl rfl rfl rfl (ci := 9) g1 rfl (ev_up (Nat.le_of_ble_eq_true rfl) (sn_Versions_bodies g1 c4)) ?_
      refine bk_b (q := (8, [(0, .ref 1), (1, .int p1), (2, .int p2)], [.int p1, .ref x3])) tb_c_121_0 mx_121 1 rfl ?_
      obtain ⟨x7, S6, c8, h⟩ := wd_cx h
      refine bk_kv tb_c_121_0 rfl rfl rfl rfl rfl (ci := 0) g5 rfl (ev_up (Nat.le_of_ble_eq_true rfl) (sn_Bodies_has g5 c8)) ?_
      by_cases g9 : x7 = 0
      · rw [if_pos g9] at h
        refine bk_zt tb_c_121_0 rfl (pc' := 24) rfl (cm_eq_t g9) ?_
        exact go_lv ls_nil (sn_Sp_version_24 h)
      · rw [if_neg g9] at h
        refine bk_zf tb_c_121_0 rfl (pc' := 14) rfl (t := 24) rfl (cm_eq_f g9) ?_
        refine bk_b (q := (15, [(0, .ref 1), (1, .int p1), (2, .int p2)], [.int p2])) tb_c_121_0 mx_121 1 rfl ?_
        by_cases g10 : p2 < 0
        · rw [if_pos g10] at h
          refine bk_zt tb_c_121_0 rfl (pc' := 24) rfl (cm_lt_t g10) ?_
          exact go_lv ls_nil (sn_Sp_version_24 h)
        · rw [if_neg g10] at h
          refine bk_zf tb_c_121_0 rfl (pc' := 18) rfl (t := 24) rfl (cm_lt_f g10) ?_
          refine bk_b (q := (21, [(0, .ref 1), (1, .int p1), (2, .int p2)], [.int (9 : Int32), .int p2])) tb_c_121_0 mx_121 2 rfl ?_
          by_cases g11 : (9 : Int32) < p2
          · rw [if_pos g11] at h
            refine bk_jf tb_c_121_0 rfl (pc' := 24) rfl (t := 34) rfl (cm_le_f g11) ?_
            exact go_lv ls_nil (sn_Sp_version_24 h)
          · rw [if_neg g11] at h
            refine bk_jt tb_c_121_0 rfl (pc' := 34) rfl (cm_le_t g11) ?_
            refine bk_b (q := (35, [(0, .ref 1), (1, .int p1), (2, .int p2)], [.int p2])) tb_c_121_0 mx_121 1 rfl ?_
            by_cases g12 : p2 = (0 : Int32)
            · rw [if_pos g12] at h
              refine bk_sw tb_c_121_0 rfl (pc' := 72) (by rw [g12]; rfl) ?_
              refine bk_b (q := (73, [(0, .ref 1), (1, .int p1), (2, .int p2)], [.ref 1])) tb_c_121_0 mx_121 1 rfl ?_
              refine bk_gm tb_c_121_0 rfl rfl (ci := 10) (k := 7) rfl rfl rfl ?_
              by_cases g13 : tp_t (S6.2.2.1 1 7) = (0, 9)
              · rw [if_pos g13] at h
                refine bk_b (q := (77, [(0, .ref 1), (1, .int p1), (2, .int p2)], [.int p1, .ref (S6.2.2.1 1 7)])) tb_c_121_0 mx_121 1 rfl ?_
                obtain ⟨x15, S14, c16, h⟩ := wd_cx h
                refine bk_kv tb_c_121_0 rfl rfl rfl rfl rfl (ci := 9) g13 rfl (ev_up (Nat.le_of_ble_eq_true rfl) (sn_Versions_functionOf g13 c16)) ?_
                cases h
                exact bk_t tb_c_121_0 rfl rfl
              · rw [if_neg g13] at h; cases h
            · rw [if_neg g12] at h
              by_cases g17 : p2 = (1 : Int32)
              · rw [if_pos g17] at h
                refine bk_sw tb_c_121_0 rfl (pc' := 81) (by rw [g17]; rfl) ?_
                refine bk_b (q := (82, [(0, .ref 1), (1, .int p1), (2, .int p2)], [.ref 1])) tb_c_121_0 mx_121 1 rfl ?_
                refine bk_gm tb_c_121_0 rfl rfl (ci := 10) (k := 7) rfl rfl rfl ?_
                by_cases g18 : tp_t (S6.2.2.1 1 7) = (0, 9)
                · rw [if_pos g18] at h
                  refine bk_b (q := (86, [(0, .ref 1), (1, .int p1), (2, .int p2)], [.int p1, .ref (S6.2.2.1 1 7)])) tb_c_121_0 mx_121 1 rfl ?_
                  obtain ⟨x20, S19, c21, h⟩ := wd_cx h
                  refine bk_kv tb_c_121_0 rfl rfl rfl rfl rfl (ci := 9) g18 rfl (ev_up (Nat.le_of_ble_eq_true rfl) (sn_Versions_mask g18 c21)) ?_
                  cases h
                  exact bk_t tb_c_121_0 rfl rfl
                · rw [if_neg g18] at h; cases h
              · rw [if_neg g17] at h
                by_cases g22 : p2 = (2 : Int32)
                · rw [if_pos g22] at h
                  refine bk_sw tb_c_121_0 rfl (pc' := 90) (by rw [g22]; rfl) ?_
                  refine bk_b (q := (91, [(0, .ref 1), (1, .int p1), (2, .int p2)], [.ref 1])) tb_c_121_0 mx_121 1 rfl ?_
                  refine bk_gm tb_c_121_0 rfl rfl (ci := 10) (k := 7) rfl rfl rfl ?_
                  by_cases g23 : tp_t (S6.2.2.1 1 7) = (0, 9)
                  · rw [if_pos g23] at h
                    obtain ⟨x25, S24, c26, h⟩ := wd_cx h
                    by_cases g27 : tp_t x25 = (0, 0)
                    · rw [if_pos g27] at h
                      refine bk_kv tb_c_121_0 rfl rfl rfl rfl rfl (ci := 9) g23 rfl (ev_up (Nat.le_of_ble_eq_true rfl) (sn_Versions_bodies g23 c26)) ?_
                      refine bk_b (q := (98, [(0, .ref 1), (1, .int p1), (2, .int p2)], [.int p1, .ref x25])) tb_c_121_0 mx_121 1 rfl ?_
                      obtain ⟨x29, S28, c30, h⟩ := wd_cx h
                      refine bk_kv tb_c_121_0 rfl rfl rfl rfl rfl (ci := 0) g27 rfl (ev_up (Nat.le_of_ble_eq_true rfl) (sn_Bodies_params g27 c30)) ?_
                      cases h
                      exact bk_t tb_c_121_0 rfl rfl
                    · rw [if_neg g27] at h; cases h
                  · rw [if_neg g23] at h; cases h
                · rw [if_neg g22] at h
                  by_cases g31 : p2 = (3 : Int32)
                  · rw [if_pos g31] at h
                    refine bk_sw tb_c_121_0 rfl (pc' := 102) (by rw [g31]; rfl) ?_
                    refine bk_b (q := (103, [(0, .ref 1), (1, .int p1), (2, .int p2)], [.ref 1])) tb_c_121_0 mx_121 1 rfl ?_
                    refine bk_gm tb_c_121_0 rfl rfl (ci := 10) (k := 7) rfl rfl rfl ?_
                    by_cases g32 : tp_t (S6.2.2.1 1 7) = (0, 9)
                    · rw [if_pos g32] at h
                      obtain ⟨x34, S33, c35, h⟩ := wd_cx h
                      by_cases g36 : tp_t x34 = (0, 0)
                      · rw [if_pos g36] at h
                        refine bk_kv tb_c_121_0 rfl rfl rfl rfl rfl (ci := 9) g32 rfl (ev_up (Nat.le_of_ble_eq_true rfl) (sn_Versions_bodies g32 c35)) ?_
                        refine bk_b (q := (110, [(0, .ref 1), (1, .int p1), (2, .int p2)], [.int p1, .ref x34])) tb_c_121_0 mx_121 1 rfl ?_
                        obtain ⟨x38, S37, c39, h⟩ := wd_cx h
                        refine bk_kv tb_c_121_0 rfl rfl rfl rfl rfl (ci := 0) g36 rfl (ev_up (Nat.le_of_ble_eq_true rfl) (sn_Bodies_expressions g36 c39)) ?_
                        cases h
                        exact bk_t tb_c_121_0 rfl rfl
                      · rw [if_neg g36] at h; cases h
                    · rw [if_neg g32] at h; cases h
                  · rw [if_neg g31] at h
                    by_cases g40 : p2 = (4 : Int32)
                    · rw [if_pos g40] at h
                      refine bk_sw tb_c_121_0 rfl (pc' := 114) (by rw [g40]; rfl) ?_
                      refine bk_b (q := (115, [(0, .ref 1), (1, .int p1), (2, .int p2)], [.ref 1])) tb_c_121_0 mx_121 1 rfl ?_
                      refine bk_gm tb_c_121_0 rfl rfl (ci := 10) (k := 7) rfl rfl rfl ?_
                      by_cases g41 : tp_t (S6.2.2.1 1 7) = (0, 9)
                      · rw [if_pos g41] at h
                        obtain ⟨x43, S42, c44, h⟩ := wd_cx h
                        by_cases g45 : tp_t x43 = (0, 0)
                        · rw [if_pos g45] at h
                          refine bk_kv tb_c_121_0 rfl rfl rfl rfl rfl (ci := 9) g41 rfl (ev_up (Nat.le_of_ble_eq_true rfl) (sn_Versions_bodies g41 c44)) ?_
                          refine bk_b (q := (122, [(0, .ref 1), (1, .int p1), (2, .int p2)], [.int p1, .ref x43])) tb_c_121_0 mx_121 1 rfl ?_
                          obtain ⟨x47, S46, c48, h⟩ := wd_cx h
                          refine bk_kv tb_c_121_0 rfl rfl rfl rfl rfl (ci := 0) g45 rfl (ev_up (Nat.le_of_ble_eq_true rfl) (sn_Bodies_lets g45 c48)) ?_
                          cases h
                          exact bk_t tb_c_121_1 rfl rfl
                        · rw [if_neg g45] at h; cases h
                      · rw [if_neg g41] at h; cases h
                    · rw [if_neg g40] at h
                      by_cases g49 : p2 = (5 : Int32)
                      · rw [if_pos g49] at h
                        refine bk_sw tb_c_121_0 rfl (pc' := 126) (by rw [g49]; rfl) ?_
                        refine bk_b (q := (127, [(0, .ref 1), (1, .int p1), (2, .int p2)], [.ref 1])) tb_c_121_1 mx_121 1 rfl ?_
                        refine bk_gm tb_c_121_1 rfl rfl (ci := 10) (k := 7) rfl rfl rfl ?_
                        by_cases g50 : tp_t (S6.2.2.1 1 7) = (0, 9)
                        · rw [if_pos g50] at h
                          refine bk_b (q := (131, [(0, .ref 1), (1, .int p1), (2, .int p2)], [.int p1, .ref (S6.2.2.1 1 7)])) tb_c_121_1 mx_121 1 rfl ?_
                          obtain ⟨x52, S51, c53, h⟩ := wd_cx h
                          refine bk_kv tb_c_121_1 rfl rfl rfl rfl rfl (ci := 9) g50 rfl (ev_up (Nat.le_of_ble_eq_true rfl) (sn_Versions_isNumber g50 c53)) ?_
                          by_cases g54 : x52 = 0
                          · rw [if_pos g54] at h
                            refine bk_zt tb_c_121_1 rfl (pc' := 141) rfl (cm_eq_t g54) ?_
                            refine bk_b (q := (142, [(0, .ref 1), (1, .int p1), (2, .int p2)], [.int (0 : Int32)])) tb_c_121_1 mx_121 1 rfl ?_
                            exact go_lv ls_nil (sn_Sp_version_142 h)
                          · rw [if_neg g54] at h
                            refine bk_zf tb_c_121_1 rfl (pc' := 137) rfl (t := 141) rfl (cm_eq_f g54) ?_
                            refine bk_b (q := (142, [(0, .ref 1), (1, .int p1), (2, .int p2)], [.int (1 : Int32)])) tb_c_121_1 mx_121 2 rfl ?_
                            exact go_lv ls_nil (sn_Sp_version_142 h)
                        · rw [if_neg g50] at h; cases h
                      · rw [if_neg g49] at h
                        refine bk_sw tb_c_121_0 rfl (pc' := 143) (sw_t (t := 143) (fun i h1 h2 => ?_) rfl) ?_
                        · have hi : i = 0 ∨ i = 1 ∨ i = 2 ∨ i = 3 ∨ i = 4 ∨ i = 5 := by omega
                          rcases hi with rfl | rfl | rfl | rfl | rfl | rfl
                          · exact g12
                          · exact g17
                          · exact g22
                          · exact g31
                          · exact g40
                          · exact g49
                        · refine bk_b (q := (144, [(0, .ref 1), (1, .int p1), (2, .int p2)], [.ref 1])) tb_c_121_1 mx_121 1 rfl ?_
                          refine bk_gm tb_c_121_1 rfl rfl (ci := 10) (k := 7) rfl rfl rfl ?_
                          by_cases g55 : tp_t (S6.2.2.1 1 7) = (0, 9)
                          · rw [if_pos g55] at h
                            refine bk_b (q := (152, [(0, .ref 1), (1, .int p1), (2, .int p2)], [.int (p2 - (6 : Int32)), .int p1, .ref (S6.2.2.1 1 7)])) tb_c_121_1 mx_121 4 rfl ?_
                            obtain ⟨x57, S56, c58, h⟩ := wd_cx h
                            refine bk_kv tb_c_121_1 rfl rfl rfl rfl rfl (ci := 9) g55 rfl (ev_up (Nat.le_of_ble_eq_true rfl) (sn_Versions_number g55 c58)) ?_
                            cases h
                            exact bk_t tb_c_121_1 rfl rfl
                          · rw [if_neg g55] at h; cases h
    · rw [if_neg g5] at h; cases h
  · rw [if_neg g1] at h; cases h
theorem mx_123 : mi_mx tb_P 123 = 2 := rfl
noncomputable def fn_Sp_told_10 (S : wd_S) : Option ((Int32 ⊕ String) × wd_S) :=
  some (.inr "java/lang/IndexOutOfBoundsException", wd_n S)
set_option maxRecDepth 100000 in
theorem sn_Sp_told_10 {L : Nat} {xs : Nat → Int32} {S : wd_S} {x : Int32 ⊕ String} {S' : wd_S} (h : fn_Sp_told_10  S = some (x, S')) : go_r tb_P L xs 1 123 10 [] [] (wd_k S) (wd_wi x, wd_k S') := by
  unfold fn_Sp_told_10 at h
  cases h
  exact bk_x rfl
/-- Specialiser.told(I)I -/
noncomputable def fn_Sp_told (p1 : Int32) (S : wd_S) : Option ((Int32 ⊕ String) × wd_S) :=
  (if p1 < 0 then
    fn_Sp_told_10  S
  else
    (if (7 : Int32) < p1 then
      fn_Sp_told_10  S
    else
      (if p1 = (5 : Int32) then
        (wd_c (fn_Integer_bitCount (S.1 1 12) S) fun x5 S4 =>
        some (.inl x5, S4))
      else
      (if p1 = (6 : Int32) then
        some (.inl (S.1 1 18), S)
      else
      (if p1 = (7 : Int32) then
        some (.inl (S.1 1 1), S)
      else
      (wd_c (fn_Row_at 124 p1 S) fun x10 S9 =>
      some (.inl x10, S9)))))))
set_option maxRecDepth 100000 in
theorem sn_Sp_told {L : Nat} {xs : Nat → Int32} {p1 : Int32} {S : wd_S} {x : Int32 ⊕ String} {S' : wd_S} (h : fn_Sp_told p1 S = some (x, S')) : ev_r tb_P L xs (1 + 1) 123 [.ref 1, .int p1] (wd_k S) (wd_wi x, wd_k S') := by
  unfold fn_Sp_told at h
  refine ev_of (Nat.le_of_ble_eq_true rfl) ?_
  show go_r tb_P L xs 1 123 0 [(0, .ref 1), (1, .int p1)] [] (wd_k S) (wd_wi x, wd_k S')
  refine bk_b (q := (1, [(0, .ref 1), (1, .int p1)], [.int p1])) tb_c_123_0 mx_123 1 rfl ?_
  by_cases g1 : p1 < 0
  · rw [if_pos g1] at h
    refine bk_zt tb_c_123_0 rfl (pc' := 10) rfl (cm_lt_t g1) ?_
    exact go_lv ls_nil (sn_Sp_told_10 h)
  · rw [if_neg g1] at h
    refine bk_zf tb_c_123_0 rfl (pc' := 4) rfl (t := 10) rfl (cm_lt_f g1) ?_
    refine bk_b (q := (7, [(0, .ref 1), (1, .int p1)], [.int (7 : Int32), .int p1])) tb_c_123_0 mx_123 2 rfl ?_
    by_cases g2 : (7 : Int32) < p1
    · rw [if_pos g2] at h
      refine bk_jf tb_c_123_0 rfl (pc' := 10) rfl (t := 20) rfl (cm_le_f g2) ?_
      exact go_lv ls_nil (sn_Sp_told_10 h)
    · rw [if_neg g2] at h
      refine bk_jt tb_c_123_0 rfl (pc' := 20) rfl (cm_le_t g2) ?_
      refine bk_b (q := (21, [(0, .ref 1), (1, .int p1)], [.int p1])) tb_c_123_0 mx_123 1 rfl ?_
      by_cases g3 : p1 = (5 : Int32)
      · rw [if_pos g3] at h
        refine bk_sw tb_c_123_0 rfl (pc' := 48) (by rw [g3]; rfl) ?_
        refine bk_b (q := (49, [(0, .ref 1), (1, .int p1)], [.ref 1])) tb_c_123_0 mx_123 1 rfl ?_
        refine bk_gi tb_c_123_0 rfl rfl (ci := 10) (k := 12) rfl rfl rfl ?_
        obtain ⟨x5, S4, c6, h⟩ := wd_cx h
        refine bk_ks tb_c_123_0 rfl rfl rfl (by decide) rfl rfl (ev_up (Nat.le_of_ble_eq_true rfl) (sn_Integer_bitCount c6)) ?_
        cases h
        exact bk_t tb_c_123_0 rfl rfl
      · rw [if_neg g3] at h
        by_cases g7 : p1 = (6 : Int32)
        · rw [if_pos g7] at h
          refine bk_sw tb_c_123_0 rfl (pc' := 56) (by rw [g7]; rfl) ?_
          refine bk_b (q := (57, [(0, .ref 1), (1, .int p1)], [.ref 1])) tb_c_123_0 mx_123 1 rfl ?_
          refine bk_gi tb_c_123_0 rfl rfl (ci := 10) (k := 18) rfl rfl rfl ?_
          cases h
          exact bk_t tb_c_123_0 rfl rfl
        · rw [if_neg g7] at h
          by_cases g8 : p1 = (7 : Int32)
          · rw [if_pos g8] at h
            refine bk_sw tb_c_123_0 rfl (pc' := 61) (by rw [g8]; rfl) ?_
            refine bk_b (q := (62, [(0, .ref 1), (1, .int p1)], [.ref 1])) tb_c_123_0 mx_123 1 rfl ?_
            refine bk_gi tb_c_123_0 rfl rfl (ci := 10) (k := 1) rfl rfl rfl ?_
            cases h
            exact bk_t tb_c_123_0 rfl rfl
          · rw [if_neg g8] at h
            refine bk_sw tb_c_123_0 rfl (pc' := 66) (sw_t (t := 66) (fun i h1 h2 => ?_) rfl) ?_
            · have hi : i = 5 ∨ i = 6 ∨ i = 7 := by omega
              rcases hi with rfl | rfl | rfl
              · exact g3
              · exact g7
              · exact g8
            · refine bk_b (q := (67, [(0, .ref 1), (1, .int p1)], [.ref 1])) tb_c_123_0 mx_123 1 rfl ?_
              refine bk_gc tb_c_123_0 rfl rfl (ci := 10) (k := 13) rfl rfl rfl ?_
              refine bk_b (q := (71, [(0, .ref 1), (1, .int p1)], [.int p1, .ref 124])) tb_c_123_0 mx_123 1 rfl ?_
              obtain ⟨x10, S9, c11, h⟩ := wd_cx h
              refine bk_kv tb_c_123_0 rfl rfl rfl rfl rfl (ci := 5) rfl rfl (ev_up (Nat.le_of_ble_eq_true rfl) (sn_Row_at rfl c11)) ?_
              cases h
              exact bk_t tb_c_123_0 rfl rfl
theorem mx_127 : mi_mx tb_P 127 = 2 := rfl
noncomputable def fn_Printer_put_19 (S : wd_S) : Option wd_S :=
  (wd_b (wd_i S 128 5 ((S.1 128 5) + (1 : Int32))) fun S2 =>
  some S2)
set_option maxRecDepth 100000 in
theorem sn_Printer_put_19 {L : Nat} {xs : Nat → Int32} {S : wd_S} {S' : wd_S} (h : fn_Printer_put_19  S = some S') : go_r tb_P L xs 1 127 19 [(0, .ref 128)] [] (wd_k S) (.inl none, wd_k S') := by
  unfold fn_Printer_put_19 at h
  refine bk_b (q := (21, [(0, .ref 128)], [.ref 128, .ref 128])) tb_c_127_0 mx_127 2 rfl ?_
  refine bk_gi tb_c_127_0 rfl rfl (ci := 3) (k := 5) rfl rfl rfl ?_
  refine bk_b (q := (26, [(0, .ref 128)], [.int ((S.1 128 5) + (1 : Int32)), .ref 128])) tb_c_127_0 mx_127 2 rfl ?_
  obtain ⟨S2, eS2, h⟩ := wd_bx h
  refine bk_pi tb_c_127_0 rfl rfl (ci := 3) (k := 5) rfl rfl rfl rfl ?_
  rw [eS2]
  cases h
  exact bk_t tb_c_127_0 rfl rfl
/-- Specialiser$Printer.put(I)V -/
noncomputable def fn_Printer_put (p1 : Int32) (S : wd_S) : Option wd_S :=
  (if (S.1 128 4) = 0 then
    fn_Printer_put_19  S
  else
    (wd_d (fn_Row_put 126 (S.1 128 5) p1 S) fun S3 =>
    fn_Printer_put_19  S3))
set_option maxRecDepth 100000 in
theorem sn_Printer_put {L : Nat} {xs : Nat → Int32} {p1 : Int32} {S : wd_S} {S' : wd_S} (h : fn_Printer_put p1 S = some S') : ev_r tb_P L xs (1 + 1) 127 [.ref 128, .int p1] (wd_k S) (.inl none, wd_k S') := by
  unfold fn_Printer_put at h
  refine ev_of (Nat.le_of_ble_eq_true rfl) ?_
  show go_r tb_P L xs 1 127 0 [(0, .ref 128), (1, .int p1)] [] (wd_k S) (.inl none, wd_k S')
  refine bk_b (q := (1, [(0, .ref 128), (1, .int p1)], [.ref 128])) tb_c_127_0 mx_127 1 rfl ?_
  refine bk_gi tb_c_127_0 rfl rfl (ci := 3) (k := 4) rfl rfl rfl ?_
  by_cases g1 : (S.1 128 4) = 0
  · rw [if_pos g1] at h
    refine bk_zt tb_c_127_0 rfl (pc' := 19) rfl (cm_eq_t g1) ?_
    exact go_lv (ls_sc rfl rfl ls_nil) (sn_Printer_put_19 h)
  · rw [if_neg g1] at h
    refine bk_zf tb_c_127_0 rfl (pc' := 7) rfl (t := 19) rfl (cm_eq_f g1) ?_
    refine bk_b (q := (8, [(0, .ref 128), (1, .int p1)], [.ref 128])) tb_c_127_0 mx_127 1 rfl ?_
    refine bk_gc tb_c_127_0 rfl rfl (ci := 3) (k := 0) rfl rfl rfl ?_
    refine bk_b (q := (12, [(0, .ref 128), (1, .int p1)], [.ref 128, .ref 126])) tb_c_127_0 mx_127 1 rfl ?_
    refine bk_gi tb_c_127_0 rfl rfl (ci := 3) (k := 5) rfl rfl rfl ?_
    refine bk_b (q := (16, [(0, .ref 128), (1, .int p1)], [.int p1, .int (S.1 128 5), .ref 126])) tb_c_127_0 mx_127 1 rfl ?_
    obtain ⟨S3, c5, h⟩ := wd_dx h
    refine bk_kv tb_c_127_0 rfl rfl rfl rfl rfl (ci := 5) rfl rfl (ev_up (Nat.le_of_ble_eq_true rfl) (sn_Row_put rfl c5)) ?_
    exact go_lv (ls_sc rfl rfl ls_nil) (sn_Printer_put_19 h)
theorem mx_128 : mi_mx tb_P 128 = 4 := rfl
noncomputable def fn_Printer_putNumber_51 (kk24 : Int32 → Int32 → wd_S → Option wd_S) (l2 : Int32) (l3 : Int32) (S : wd_S) : Option wd_S :=
  kk24 l2 (l3 / (10 : Int32)) S
set_option maxRecDepth 100000 in
theorem sn_Printer_putNumber_51 {L : Nat} {xs : Nat → Int32} {kk24 : Int32 → Int32 → wd_S → Option wd_S} (hk24 : ∀ {l2 : Int32} {l3 : Int32} {S : wd_S} {S' : wd_S}, kk24 l2 l3 S = some S' → go_r tb_P L xs 2 128 24 [(0, .ref 128), (2, .int l2), (3, .int l3)] [] (wd_k S) (.inl none, wd_k S')) {l2 : Int32} {l3 : Int32} {S : wd_S} {S' : wd_S} (h : fn_Printer_putNumber_51 kk24 l2 l3 S = some S') : go_r tb_P L xs 2 128 51 [(0, .ref 128), (2, .int l2), (3, .int l3)] [] (wd_k S) (.inl none, wd_k S') := by
  unfold fn_Printer_putNumber_51 at h
  refine bk_b (q := (24, [(3, .int (l3 / (10 : Int32))), (0, .ref 128), (2, .int l2)], [])) tb_c_128_0 mx_128 5 rfl ?_
  exact go_lv (ls_sc rfl rfl (ls_sc rfl rfl (ls_sc rfl rfl ls_nil))) (hk24 h)
noncomputable def fn_Printer_putNumber_38 (kk24 : Int32 → Int32 → wd_S → Option wd_S) (l2 : Int32) (l3 : Int32) (S : wd_S) : Option wd_S :=
  (if l3 = 0 then none else
  (wd_d (fn_Printer_put ((48 : Int32) + ((l2 / l3) - (l2 / l3) / (10 : Int32) * (10 : Int32))) S) fun S6 =>
  fn_Printer_putNumber_51 kk24 l2 l3 S6))
set_option maxRecDepth 100000 in
theorem sn_Printer_putNumber_38 {L : Nat} {xs : Nat → Int32} {kk24 : Int32 → Int32 → wd_S → Option wd_S} (hk24 : ∀ {l2 : Int32} {l3 : Int32} {S : wd_S} {S' : wd_S}, kk24 l2 l3 S = some S' → go_r tb_P L xs 2 128 24 [(0, .ref 128), (2, .int l2), (3, .int l3)] [] (wd_k S) (.inl none, wd_k S')) {l2 : Int32} {l3 : Int32} {S : wd_S} {S' : wd_S} (h : fn_Printer_putNumber_38 kk24 l2 l3 S = some S') : go_r tb_P L xs 2 128 38 [(0, .ref 128), (2, .int l2), (3, .int l3)] [] (wd_k S) (.inl none, wd_k S') := by
  unfold fn_Printer_putNumber_38 at h
  refine bk_b (q := (43, [(0, .ref 128), (2, .int l2), (3, .int l3)], [.int l3, .int l2, .int (48 : Int32), .ref 128])) tb_c_128_0 mx_128 4 rfl ?_
  by_cases g5 : l3 = 0
  · rw [if_pos g5] at h; cases h
  · rw [if_neg g5] at h
    refine bk_p tb_c_128_0 (i := .idiv) rfl (st' := [.int (l2 / l3), .int (48 : Int32), .ref 128]) rfl (if_neg g5) ?_
    refine bk_b (q := (48, [(0, .ref 128), (2, .int l2), (3, .int l3)], [.int ((48 : Int32) + ((l2 / l3) - (l2 / l3) / (10 : Int32) * (10 : Int32))), .ref 128])) tb_c_128_0 mx_128 3 rfl ?_
    obtain ⟨S6, c8, h⟩ := wd_dx h
    refine bk_kv tb_c_128_0 rfl rfl rfl rfl rfl (ci := 3) rfl rfl (ev_up (Nat.le_of_ble_eq_true rfl) (sn_Printer_put c8)) ?_
    exact go_lv (ls_sc rfl rfl (ls_sc rfl rfl (ls_sc rfl rfl ls_nil))) (sn_Printer_putNumber_51 hk24 h)
noncomputable def fn_Printer_putNumber_24 : Nat → Int32 → Int32 → wd_S → Option wd_S
  | 0, _, _, _ => none
  | n + 1, l2, l3, S =>
    (if 0 < l3 then
      (if l2 < l3 then
        (if l3 = (1 : Int32) then
          fn_Printer_putNumber_38 (fn_Printer_putNumber_24 n) l2 l3 S
        else
          fn_Printer_putNumber_51 (fn_Printer_putNumber_24 n) l2 l3 S)
      else
        fn_Printer_putNumber_38 (fn_Printer_putNumber_24 n) l2 l3 S)
    else
      some S)
set_option maxRecDepth 100000 in
theorem sn_Printer_putNumber_24 {L : Nat} {xs : Nat → Int32} : ∀ (n : Nat) {l2 : Int32} {l3 : Int32} {S : wd_S} {S' : wd_S}, fn_Printer_putNumber_24 n l2 l3 S = some S' → go_r tb_P L xs 2 128 24 [(0, .ref 128), (2, .int l2), (3, .int l3)] [] (wd_k S) (.inl none, wd_k S') := by
  intro n
  induction n with
  | zero => intro l2 l3 S S'  h; cases h
  | succ n ih =>
    intro l2 l3 S S'  h
    rw [fn_Printer_putNumber_24] at h
    refine bk_b (q := (25, [(0, .ref 128), (2, .int l2), (3, .int l3)], [.int l3])) tb_c_128_0 mx_128 1 rfl ?_
    by_cases g3 : 0 < l3
    · rw [if_pos g3] at h
      refine bk_zf tb_c_128_0 rfl (pc' := 28) rfl (t := 59) rfl (cm_le_f g3) ?_
      refine bk_b (q := (30, [(0, .ref 128), (2, .int l2), (3, .int l3)], [.int l3, .int l2])) tb_c_128_0 mx_128 2 rfl ?_
      by_cases g4 : l2 < l3
      · rw [if_pos g4] at h
        refine bk_jf tb_c_128_0 rfl (pc' := 33) rfl (t := 38) rfl (cm_ge_f g4) ?_
        refine bk_b (q := (35, [(0, .ref 128), (2, .int l2), (3, .int l3)], [.int (1 : Int32), .int l3])) tb_c_128_0 mx_128 2 rfl ?_
        by_cases g9 : l3 = (1 : Int32)
        · rw [if_pos g9] at h
          refine bk_jf tb_c_128_0 rfl (pc' := 38) rfl (t := 51) rfl (cm_ne_f g9) ?_
          exact go_lv (ls_sc rfl rfl (ls_sc rfl rfl (ls_sc rfl rfl ls_nil))) (sn_Printer_putNumber_38 ih h)
        · rw [if_neg g9] at h
          refine bk_jt tb_c_128_0 rfl (pc' := 51) rfl (cm_ne_t g9) ?_
          exact go_lv (ls_sc rfl rfl (ls_sc rfl rfl (ls_sc rfl rfl ls_nil))) (sn_Printer_putNumber_51 ih h)
      · rw [if_neg g4] at h
        refine bk_jt tb_c_128_0 rfl (pc' := 38) rfl (cm_ge_t g4) ?_
        exact go_lv (ls_sc rfl rfl (ls_sc rfl rfl (ls_sc rfl rfl ls_nil))) (sn_Printer_putNumber_38 ih h)
    · rw [if_neg g3] at h
      refine bk_zt tb_c_128_0 rfl (pc' := 59) rfl (cm_le_t g3) ?_
      cases h
      exact bk_t tb_c_128_0 rfl rfl
noncomputable def fn_Printer_putNumber_21 (l2 : Int32) (S : wd_S) : Option wd_S :=
  fn_Printer_putNumber_24 wd_F l2 (1000000000 : Int32) S
set_option maxRecDepth 100000 in
theorem sn_Printer_putNumber_21 {L : Nat} {xs : Nat → Int32} {l2 : Int32} {S : wd_S} {S' : wd_S} (h : fn_Printer_putNumber_21 l2 S = some S') : go_r tb_P L xs 2 128 21 [(0, .ref 128), (2, .int l2)] [] (wd_k S) (.inl none, wd_k S') := by
  unfold fn_Printer_putNumber_21 at h
  refine bk_c4 tb_c_128_0 rfl rfl (x := (1000000000 : Int32)) rfl ?_
  refine bk_b (q := (24, [(3, .int (1000000000 : Int32)), (0, .ref 128), (2, .int l2)], [])) tb_c_128_0 mx_128 1 rfl ?_
  exact go_lv (ls_sc rfl rfl (ls_sc rfl rfl (ls_sc rfl rfl ls_nil))) (sn_Printer_putNumber_24 wd_F h)
noncomputable def fn_Printer_putNumber_10 (l1 : Int32) (s0 : Int32) (S : wd_S) : Option wd_S :=
  (if l1 < 0 then
    (wd_d (fn_Printer_put (45 : Int32) S) fun S10 =>
    fn_Printer_putNumber_21 s0 S10)
  else
    fn_Printer_putNumber_21 s0 S)
set_option maxRecDepth 100000 in
theorem sn_Printer_putNumber_10 {L : Nat} {xs : Nat → Int32} {l1 : Int32} {s0 : Int32} {S : wd_S} {S' : wd_S} (h : fn_Printer_putNumber_10 l1 s0 S = some S') : go_r tb_P L xs 2 128 10 [(0, .ref 128), (1, .int l1)] [.int s0] (wd_k S) (.inl none, wd_k S') := by
  unfold fn_Printer_putNumber_10 at h
  refine bk_b (q := (12, [(2, .int s0), (0, .ref 128), (1, .int l1)], [.int l1])) tb_c_128_0 mx_128 2 rfl ?_
  by_cases g2 : l1 < 0
  · rw [if_pos g2] at h
    refine bk_zf tb_c_128_0 rfl (pc' := 15) rfl (t := 21) rfl (cm_ge_f g2) ?_
    refine bk_b (q := (18, [(2, .int s0), (0, .ref 128), (1, .int l1)], [.int (45 : Int32), .ref 128])) tb_c_128_0 mx_128 2 rfl ?_
    obtain ⟨S10, c12, h⟩ := wd_dx h
    refine bk_kv tb_c_128_0 rfl rfl rfl rfl rfl (ci := 3) rfl rfl (ev_up (Nat.le_of_ble_eq_true rfl) (sn_Printer_put c12)) ?_
    exact go_lv (ls_sc rfl rfl (ls_sc rfl rfl ls_nil)) (sn_Printer_putNumber_21 h)
  · rw [if_neg g2] at h
    refine bk_zt tb_c_128_0 rfl (pc' := 21) rfl (cm_ge_t g2) ?_
    exact go_lv (ls_sc rfl rfl (ls_sc rfl rfl ls_nil)) (sn_Printer_putNumber_21 h)
/-- Specialiser$Printer.putNumber(I)V -/
noncomputable def fn_Printer_putNumber (p1 : Int32) (S : wd_S) : Option wd_S :=
  (if p1 < 0 then
    fn_Printer_putNumber_10 p1 (-p1) S
  else
    fn_Printer_putNumber_10 p1 p1 S)
set_option maxRecDepth 100000 in
theorem sn_Printer_putNumber {L : Nat} {xs : Nat → Int32} {p1 : Int32} {S : wd_S} {S' : wd_S} (h : fn_Printer_putNumber p1 S = some S') : ev_r tb_P L xs (2 + 1) 128 [.ref 128, .int p1] (wd_k S) (.inl none, wd_k S') := by
  unfold fn_Printer_putNumber at h
  refine ev_of (Nat.le_of_ble_eq_true rfl) ?_
  show go_r tb_P L xs 2 128 0 [(0, .ref 128), (1, .int p1)] [] (wd_k S) (.inl none, wd_k S')
  refine bk_b (q := (1, [(0, .ref 128), (1, .int p1)], [.int p1])) tb_c_128_0 mx_128 1 rfl ?_
  by_cases g1 : p1 < 0
  · rw [if_pos g1] at h
    refine bk_zf tb_c_128_0 rfl (pc' := 4) rfl (t := 9) rfl (cm_ge_f g1) ?_
    refine bk_b (q := (10, [(0, .ref 128), (1, .int p1)], [.int (-p1)])) tb_c_128_0 mx_128 3 rfl ?_
    exact go_lv (ls_sc rfl rfl (ls_sc rfl rfl ls_nil)) (sn_Printer_putNumber_10 h)
  · rw [if_neg g1] at h
    refine bk_zt tb_c_128_0 rfl (pc' := 9) rfl (cm_ge_t g1) ?_
    refine bk_b (q := (10, [(0, .ref 128), (1, .int p1)], [.int p1])) tb_c_128_0 mx_128 1 rfl ?_
    exact go_lv (ls_sc rfl rfl (ls_sc rfl rfl ls_nil)) (sn_Printer_putNumber_10 h)
theorem mx_129 : mi_mx tb_P 129 = 3 := rfl
noncomputable def fn_Printer_putText_2 : Nat → Nat → Int32 → wd_S → Option wd_S
  | 0, _, _, _ => none
  | n + 1, l1, l2, S =>
    (wd_p (mi_pr tb_P 1000 [.retAddr l1]) fun x1 =>
    (if l2 < x1 then
      (wd_p (mi_pr tb_P 1001 [.retAddr l1, .int l2]) fun x4 =>
      (wd_d (fn_Printer_put x4 S) fun S6 =>
      fn_Printer_putText_2 n l1 (l2 + (1 : Int32)) S6))
    else
      some S))
set_option maxRecDepth 100000 in
theorem sn_Printer_putText_2 {L : Nat} {xs : Nat → Int32} : ∀ (n : Nat) {l1 : Nat} {l2 : Int32} {S : wd_S} {S' : wd_S}, fn_Printer_putText_2 n l1 l2 S = some S' → go_r tb_P L xs 2 129 2 [(0, .ref 128), (1, .retAddr l1), (2, .int l2)] [] (wd_k S) (.inl none, wd_k S') := by
  intro n
  induction n with
  | zero => intro l1 l2 S S'  h; cases h
  | succ n ih =>
    intro l1 l2 S S'  h
    rw [fn_Printer_putText_2] at h
    refine bk_b (q := (4, [(0, .ref 128), (1, .retAddr l1), (2, .int l2)], [.retAddr l1, .int l2])) tb_c_129_0 mx_129 2 rfl ?_
    obtain ⟨x1, c2, h⟩ := wd_px h
    refine bk_kt tb_c_129_0 rfl rfl rfl rfl rfl c2 ?_
    by_cases g3 : l2 < x1
    · rw [if_pos g3] at h
      refine bk_jf tb_c_129_0 rfl (pc' := 10) rfl (t := 25) rfl (cm_ge_f g3) ?_
      refine bk_b (q := (13, [(0, .ref 128), (1, .retAddr l1), (2, .int l2)], [.int l2, .retAddr l1, .ref 128])) tb_c_129_0 mx_129 3 rfl ?_
      obtain ⟨x4, c5, h⟩ := wd_px h
      refine bk_kt tb_c_129_0 rfl rfl rfl rfl rfl c5 ?_
      obtain ⟨S6, c8, h⟩ := wd_dx h
      refine bk_kv tb_c_129_0 rfl rfl rfl rfl rfl (ci := 3) rfl rfl (ev_up (Nat.le_of_ble_eq_true rfl) (sn_Printer_put c8)) ?_
      refine bk_b (q := (2, [(2, .int (l2 + (1 : Int32))), (0, .ref 128), (1, .retAddr l1)], [])) tb_c_129_0 mx_129 2 rfl ?_
      exact go_lv (ls_sc rfl rfl (ls_sc rfl rfl (ls_sc rfl rfl ls_nil))) (ih h)
    · rw [if_neg g3] at h
      refine bk_jt tb_c_129_0 rfl (pc' := 25) rfl (cm_ge_t g3) ?_
      cases h
      exact bk_t tb_c_129_0 rfl rfl
/-- Specialiser$Printer.putText(Ljava/lang/String;)V -/
noncomputable def fn_Printer_putText (p1 : Nat) (S : wd_S) : Option wd_S :=
  fn_Printer_putText_2 wd_F p1 (0 : Int32) S
set_option maxRecDepth 100000 in
theorem sn_Printer_putText {L : Nat} {xs : Nat → Int32} {p1 : Nat} {S : wd_S} {S' : wd_S} (h : fn_Printer_putText p1 S = some S') : ev_r tb_P L xs (2 + 1) 129 [.ref 128, .retAddr p1] (wd_k S) (.inl none, wd_k S') := by
  unfold fn_Printer_putText at h
  refine ev_of (Nat.le_of_ble_eq_true rfl) ?_
  show go_r tb_P L xs 2 129 0 [(0, .ref 128), (1, .retAddr p1)] [] (wd_k S) (.inl none, wd_k S')
  refine bk_b (q := (2, [(2, .int (0 : Int32)), (0, .ref 128), (1, .retAddr p1)], [])) tb_c_129_0 mx_129 2 rfl ?_
  exact go_lv (ls_sc rfl rfl (ls_sc rfl rfl (ls_sc rfl rfl ls_nil))) (sn_Printer_putText_2 wd_F h)
theorem mx_131 : mi_mx tb_P 131 = 2 := rfl
noncomputable def fn_Printer_showNumber_20 (S : wd_S) : Option wd_S :=
  some S
set_option maxRecDepth 100000 in
theorem sn_Printer_showNumber_20 {L : Nat} {xs : Nat → Int32} {S : wd_S} {S' : wd_S} (h : fn_Printer_showNumber_20  S = some S') : go_r tb_P L xs 3 131 20 [] [] (wd_k S) (.inl none, wd_k S') := by
  unfold fn_Printer_showNumber_20 at h
  cases h
  exact bk_t tb_c_131_0 rfl rfl
/-- Specialiser$Printer.showNumber(I)V -/
noncomputable def fn_Printer_showNumber (p1 : Int32) (S : wd_S) : Option wd_S :=
  (if p1 = (-2147483648 : Int32) then
    (wd_d (fn_Printer_putText 20 S) fun S5 =>
    fn_Printer_showNumber_20  S5)
  else
    (wd_d (fn_Printer_putNumber p1 S) fun S2 =>
    fn_Printer_showNumber_20  S2))
set_option maxRecDepth 100000 in
theorem sn_Printer_showNumber {L : Nat} {xs : Nat → Int32} {p1 : Int32} {S : wd_S} {S' : wd_S} (h : fn_Printer_showNumber p1 S = some S') : ev_r tb_P L xs (3 + 1) 131 [.ref 128, .int p1] (wd_k S) (.inl none, wd_k S') := by
  unfold fn_Printer_showNumber at h
  refine ev_of (Nat.le_of_ble_eq_true rfl) ?_
  show go_r tb_P L xs 3 131 0 [(0, .ref 128), (1, .int p1)] [] (wd_k S) (.inl none, wd_k S')
  refine bk_b (q := (1, [(0, .ref 128), (1, .int p1)], [.int p1])) tb_c_131_0 mx_131 1 rfl ?_
  refine bk_c4 tb_c_131_0 rfl rfl (x := (-2147483648 : Int32)) rfl ?_
  by_cases g1 : p1 = (-2147483648 : Int32)
  · rw [if_pos g1] at h
    refine bk_jf tb_c_131_0 rfl (pc' := 6) rfl (t := 15) rfl (cm_ne_f g1) ?_
    refine bk_b (q := (7, [(0, .ref 128), (1, .int p1)], [.ref 128])) tb_c_131_0 mx_131 1 rfl ?_
    refine bk_ct tb_c_131_0 rfl rfl (x := 20) rfl ?_
    obtain ⟨S5, c7, h⟩ := wd_dx h
    refine bk_kv tb_c_131_0 rfl rfl rfl rfl rfl (ci := 3) rfl rfl (ev_up (Nat.le_of_ble_eq_true rfl) (sn_Printer_putText c7)) ?_
    refine bk_b (q := (20, [(0, .ref 128), (1, .int p1)], [])) tb_c_131_0 mx_131 1 rfl ?_
    exact go_lv ls_nil (sn_Printer_showNumber_20 h)
  · rw [if_neg g1] at h
    refine bk_jt tb_c_131_0 rfl (pc' := 15) rfl (cm_ne_t g1) ?_
    refine bk_b (q := (17, [(0, .ref 128), (1, .int p1)], [.int p1, .ref 128])) tb_c_131_0 mx_131 2 rfl ?_
    obtain ⟨S2, c4, h⟩ := wd_dx h
    refine bk_kv tb_c_131_0 rfl rfl rfl rfl rfl (ci := 3) rfl rfl (ev_up (Nat.le_of_ble_eq_true rfl) (sn_Printer_putNumber c4)) ?_
    exact go_lv ls_nil (sn_Printer_showNumber_20 h)
theorem mx_132 : mi_mx tb_P 132 = 2 := rfl
noncomputable def fn_Printer_showName_37 (S : wd_S) : Option wd_S :=
  some S
set_option maxRecDepth 100000 in
theorem sn_Printer_showName_37 {L : Nat} {xs : Nat → Int32} {S : wd_S} {S' : wd_S} (h : fn_Printer_showName_37  S = some S') : go_r tb_P L xs 3 132 37 [] [] (wd_k S) (.inl none, wd_k S') := by
  unfold fn_Printer_showName_37 at h
  cases h
  exact bk_t tb_c_132_0 rfl rfl
/-- Specialiser$Printer.showName(I)V -/
noncomputable def fn_Printer_showName (p1 : Int32) (S : wd_S) : Option wd_S :=
  (if p1 < (S.1 128 6) then
    (wd_d (fn_Printer_put ((97 : Int32) + p1) S) fun S11 =>
    fn_Printer_showName_37  S11)
  else
    (wd_d (fn_Printer_put (120 : Int32) S) fun S2 =>
    (wd_c (fn_Row_at 129 p1 S2) fun x6 S5 =>
    (wd_d (fn_Printer_putNumber x6 S5) fun S8 =>
    fn_Printer_showName_37  S8))))
set_option maxRecDepth 100000 in
theorem sn_Printer_showName {L : Nat} {xs : Nat → Int32} {p1 : Int32} {S : wd_S} {S' : wd_S} (h : fn_Printer_showName p1 S = some S') : ev_r tb_P L xs (3 + 1) 132 [.ref 128, .int p1] (wd_k S) (.inl none, wd_k S') := by
  unfold fn_Printer_showName at h
  refine ev_of (Nat.le_of_ble_eq_true rfl) ?_
  show go_r tb_P L xs 3 132 0 [(0, .ref 128), (1, .int p1)] [] (wd_k S) (.inl none, wd_k S')
  refine bk_b (q := (2, [(0, .ref 128), (1, .int p1)], [.ref 128, .int p1])) tb_c_132_0 mx_132 2 rfl ?_
  refine bk_gi tb_c_132_0 rfl rfl (ci := 3) (k := 6) rfl rfl rfl ?_
  by_cases g1 : p1 < (S.1 128 6)
  · rw [if_pos g1] at h
    refine bk_jf tb_c_132_0 rfl (pc' := 8) rfl (t := 19) rfl (cm_ge_f g1) ?_
    refine bk_b (q := (13, [(0, .ref 128), (1, .int p1)], [.int ((97 : Int32) + p1), .ref 128])) tb_c_132_0 mx_132 4 rfl ?_
    obtain ⟨S11, c13, h⟩ := wd_dx h
    refine bk_kv tb_c_132_0 rfl rfl rfl rfl rfl (ci := 3) rfl rfl (ev_up (Nat.le_of_ble_eq_true rfl) (sn_Printer_put c13)) ?_
    refine bk_b (q := (37, [(0, .ref 128), (1, .int p1)], [])) tb_c_132_0 mx_132 1 rfl ?_
    exact go_lv ls_nil (sn_Printer_showName_37 h)
  · rw [if_neg g1] at h
    refine bk_jt tb_c_132_0 rfl (pc' := 19) rfl (cm_ge_t g1) ?_
    refine bk_b (q := (22, [(0, .ref 128), (1, .int p1)], [.int (120 : Int32), .ref 128])) tb_c_132_0 mx_132 2 rfl ?_
    obtain ⟨S2, c4, h⟩ := wd_dx h
    refine bk_kv tb_c_132_0 rfl rfl rfl rfl rfl (ci := 3) rfl rfl (ev_up (Nat.le_of_ble_eq_true rfl) (sn_Printer_put c4)) ?_
    refine bk_b (q := (27, [(0, .ref 128), (1, .int p1)], [.ref 128, .ref 128])) tb_c_132_0 mx_132 2 rfl ?_
    refine bk_gc tb_c_132_0 rfl rfl (ci := 3) (k := 1) rfl rfl rfl ?_
    refine bk_b (q := (31, [(0, .ref 128), (1, .int p1)], [.int p1, .ref 129, .ref 128])) tb_c_132_0 mx_132 1 rfl ?_
    obtain ⟨x6, S5, c7, h⟩ := wd_cx h
    refine bk_kv tb_c_132_0 rfl rfl rfl rfl rfl (ci := 5) rfl rfl (ev_up (Nat.le_of_ble_eq_true rfl) (sn_Row_at rfl c7)) ?_
    obtain ⟨S8, c10, h⟩ := wd_dx h
    refine bk_kv tb_c_132_0 rfl rfl rfl rfl rfl (ci := 3) rfl rfl (ev_up (Nat.le_of_ble_eq_true rfl) (sn_Printer_putNumber c10)) ?_
    exact go_lv ls_nil (sn_Printer_showName_37 h)
theorem mx_133 : mi_mx tb_P 133 = 4 := rfl
/-- Specialiser$Printer.showLet(II)V -/
noncomputable def fn_Printer_showLet (slf : Nat → Int32 → Int32 → wd_S → Option wd_S) (p1 : Int32) (p2 : Int32) (S : wd_S) : Option wd_S :=
  (if tp_t (S.2.2.1 128 3) = (0, 8) then
    (wd_c (fn_Trees_value (S.2.2.1 128 3) p1 S) fun x3 S2 =>
    (wd_d (fn_Printer_putText 21 S2) fun S5 =>
    (wd_d (fn_Printer_putNumber (S5.1 128 7) S5) fun S8 =>
    (wd_d (fn_Printer_putText 22 S8) fun S11 =>
    (wd_d (fn_Row_put 129 x3 (S11.1 128 7) S11) fun S14 =>
    (wd_b (wd_i S14 128 7 ((S14.1 128 7) + (1 : Int32))) fun S17 =>
    (if tp_t (S17.2.2.1 128 3) = (0, 8) then
      (wd_c (fn_Trees_part (S17.2.2.1 128 3) p1 (0 : Int32) S17) fun x20 S19 =>
      (wd_d (slf 130 x20 (p2 + (1 : Int32)) S19) fun S22 =>
      (wd_d (fn_Printer_putText 23 S22) fun S25 =>
      (if tp_t (S25.2.2.1 128 3) = (0, 8) then
        (wd_c (fn_Trees_part (S25.2.2.1 128 3) p1 (1 : Int32) S25) fun x30 S29 =>
        (wd_d (slf 130 x30 (p2 + (1 : Int32)) S29) fun S32 =>
        (wd_d (fn_Printer_put (41 : Int32) S32) fun S35 =>
        some S35)))
      else none))))
    else none)))))))
  else none)
set_option maxRecDepth 100000 in
theorem sn_Printer_showLet {L : Nat} {xs : Nat → Int32} {D : Nat} {slf : Nat → Int32 → Int32 → wd_S → Option wd_S} (hD : 4 ≤ D) (hs130 : ∀ {a b : Int32} {S : wd_S} {S' : wd_S}, slf 130 a b S = some S' → ev_r tb_P L xs D 130 [.ref 128, .int a, .int b] (wd_k S) (.inl none, wd_k S')) (hs133 : ∀ {a b : Int32} {S : wd_S} {S' : wd_S}, slf 133 a b S = some S' → ev_r tb_P L xs D 133 [.ref 128, .int a, .int b] (wd_k S) (.inl none, wd_k S')) (hs134 : ∀ {a b : Int32} {S : wd_S} {S' : wd_S}, slf 134 a b S = some S' → ev_r tb_P L xs D 134 [.ref 128, .int a, .int b] (wd_k S) (.inl none, wd_k S')) (hs135 : ∀ {a b : Int32} {S : wd_S} {S' : wd_S}, slf 135 a b S = some S' → ev_r tb_P L xs D 135 [.ref 128, .int a, .int b] (wd_k S) (.inl none, wd_k S')) (hs136 : ∀ {a b : Int32} {S : wd_S} {S' : wd_S}, slf 136 a b S = some S' → ev_r tb_P L xs D 136 [.ref 128, .int a, .int b] (wd_k S) (.inl none, wd_k S')) {p1 : Int32} {p2 : Int32} {S : wd_S} {S' : wd_S} (h : fn_Printer_showLet slf p1 p2 S = some S') : ev_r tb_P L xs (D + 1) 133 [.ref 128, .int p1, .int p2] (wd_k S) (.inl none, wd_k S') := by
  unfold fn_Printer_showLet at h
  refine ev_of (Nat.le_of_ble_eq_true rfl) ?_
  show go_r tb_P L xs D 133 0 [(0, .ref 128), (1, .int p1), (2, .int p2)] [] (wd_k S) (.inl none, wd_k S')
  refine bk_b (q := (1, [(0, .ref 128), (1, .int p1), (2, .int p2)], [.ref 128])) tb_c_133_0 mx_133 1 rfl ?_
  refine bk_gm tb_c_133_0 rfl rfl (ci := 3) (k := 3) rfl rfl rfl ?_
  by_cases g1 : tp_t (S.2.2.1 128 3) = (0, 8)
  · rw [if_pos g1] at h
    refine bk_b (q := (5, [(0, .ref 128), (1, .int p1), (2, .int p2)], [.int p1, .ref (S.2.2.1 128 3)])) tb_c_133_0 mx_133 1 rfl ?_
    obtain ⟨x3, S2, c4, h⟩ := wd_cx h
    refine bk_kv tb_c_133_0 rfl rfl rfl rfl rfl (ci := 8) g1 rfl (ev_up (Nat.le_trans (Nat.le_of_ble_eq_true rfl) hD) (sn_Trees_value g1 c4)) ?_
    refine bk_b (q := (10, [(3, .int x3), (0, .ref 128), (1, .int p1), (2, .int p2)], [.ref 128])) tb_c_133_0 mx_133 2 rfl ?_
    refine bk_ct tb_c_133_0 rfl rfl (x := 21) rfl ?_
    obtain ⟨S5, c7, h⟩ := wd_dx h
    refine bk_kv tb_c_133_0 rfl rfl rfl rfl rfl (ci := 3) rfl rfl (ev_up (Nat.le_trans (Nat.le_of_ble_eq_true rfl) hD) (sn_Printer_putText c7)) ?_
    refine bk_b (q := (17, [(3, .int x3), (0, .ref 128), (1, .int p1), (2, .int p2)], [.ref 128, .ref 128])) tb_c_133_0 mx_133 2 rfl ?_
    refine bk_gi tb_c_133_0 rfl rfl (ci := 3) (k := 7) rfl rfl rfl ?_
    obtain ⟨S8, c10, h⟩ := wd_dx h
    refine bk_kv tb_c_133_0 rfl rfl rfl rfl rfl (ci := 3) rfl rfl (ev_up (Nat.le_trans (Nat.le_of_ble_eq_true rfl) hD) (sn_Printer_putNumber c10)) ?_
    refine bk_b (q := (24, [(3, .int x3), (0, .ref 128), (1, .int p1), (2, .int p2)], [.ref 128])) tb_c_133_0 mx_133 1 rfl ?_
    refine bk_ct tb_c_133_0 rfl rfl (x := 22) rfl ?_
    obtain ⟨S11, c13, h⟩ := wd_dx h
    refine bk_kv tb_c_133_0 rfl rfl rfl rfl rfl (ci := 3) rfl rfl (ev_up (Nat.le_trans (Nat.le_of_ble_eq_true rfl) hD) (sn_Printer_putText c13)) ?_
    refine bk_b (q := (30, [(3, .int x3), (0, .ref 128), (1, .int p1), (2, .int p2)], [.ref 128])) tb_c_133_0 mx_133 1 rfl ?_
    refine bk_gc tb_c_133_0 rfl rfl (ci := 3) (k := 1) rfl rfl rfl ?_
    refine bk_b (q := (35, [(3, .int x3), (0, .ref 128), (1, .int p1), (2, .int p2)], [.ref 128, .int x3, .ref 129])) tb_c_133_0 mx_133 2 rfl ?_
    refine bk_gi tb_c_133_0 rfl rfl (ci := 3) (k := 7) rfl rfl rfl ?_
    obtain ⟨S14, c16, h⟩ := wd_dx h
    refine bk_kv tb_c_133_0 rfl rfl rfl rfl rfl (ci := 5) rfl rfl (ev_up (Nat.le_trans (Nat.le_of_ble_eq_true rfl) hD) (sn_Row_put rfl c16)) ?_
    refine bk_b (q := (43, [(3, .int x3), (0, .ref 128), (1, .int p1), (2, .int p2)], [.ref 128, .ref 128])) tb_c_133_0 mx_133 2 rfl ?_
    refine bk_gi tb_c_133_0 rfl rfl (ci := 3) (k := 7) rfl rfl rfl ?_
    refine bk_b (q := (48, [(3, .int x3), (0, .ref 128), (1, .int p1), (2, .int p2)], [.int ((S14.1 128 7) + (1 : Int32)), .ref 128])) tb_c_133_0 mx_133 2 rfl ?_
    obtain ⟨S17, eS17, h⟩ := wd_bx h
    refine bk_pi tb_c_133_0 rfl rfl (ci := 3) (k := 7) rfl rfl rfl rfl ?_
    rw [eS17]
    refine bk_b (q := (53, [(3, .int x3), (0, .ref 128), (1, .int p1), (2, .int p2)], [.ref 128, .ref 128])) tb_c_133_0 mx_133 2 rfl ?_
    refine bk_gm tb_c_133_0 rfl rfl (ci := 3) (k := 3) rfl rfl rfl ?_
    by_cases g18 : tp_t (S17.2.2.1 128 3) = (0, 8)
    · rw [if_pos g18] at h
      refine bk_b (q := (58, [(3, .int x3), (0, .ref 128), (1, .int p1), (2, .int p2)], [.int (0 : Int32), .int p1, .ref (S17.2.2.1 128 3), .ref 128])) tb_c_133_0 mx_133 2 rfl ?_
      obtain ⟨x20, S19, c21, h⟩ := wd_cx h
      refine bk_kv tb_c_133_0 rfl rfl rfl rfl rfl (ci := 8) g18 rfl (ev_up (Nat.le_trans (Nat.le_of_ble_eq_true rfl) hD) (sn_Trees_part g18 c21)) ?_
      refine bk_b (q := (64, [(3, .int x3), (0, .ref 128), (1, .int p1), (2, .int p2)], [.int (p2 + (1 : Int32)), .int x20, .ref 128])) tb_c_133_0 mx_133 3 rfl ?_
      obtain ⟨S22, c24, h⟩ := wd_dx h
      refine bk_kv tb_c_133_0 rfl rfl rfl rfl rfl (ci := 3) rfl rfl (hs130 c24) ?_
      refine bk_b (q := (68, [(3, .int x3), (0, .ref 128), (1, .int p1), (2, .int p2)], [.ref 128])) tb_c_133_0 mx_133 1 rfl ?_
      refine bk_ct tb_c_133_0 rfl rfl (x := 23) rfl ?_
      obtain ⟨S25, c27, h⟩ := wd_dx h
      refine bk_kv tb_c_133_0 rfl rfl rfl rfl rfl (ci := 3) rfl rfl (ev_up (Nat.le_trans (Nat.le_of_ble_eq_true rfl) hD) (sn_Printer_putText c27)) ?_
      refine bk_b (q := (75, [(3, .int x3), (0, .ref 128), (1, .int p1), (2, .int p2)], [.ref 128, .ref 128])) tb_c_133_1 mx_133 2 rfl ?_
      refine bk_gm tb_c_133_1 rfl rfl (ci := 3) (k := 3) rfl rfl rfl ?_
      by_cases g28 : tp_t (S25.2.2.1 128 3) = (0, 8)
      · rw [if_pos g28] at h
        refine bk_b (q := (80, [(3, .int x3), (0, .ref 128), (1, .int p1), (2, .int p2)], [.int (1 : Int32), .int p1, .ref (S25.2.2.1 128 3), .ref 128])) tb_c_133_1 mx_133 2 rfl ?_
        obtain ⟨x30, S29, c31, h⟩ := wd_cx h
        refine bk_kv tb_c_133_1 rfl rfl rfl rfl rfl (ci := 8) g28 rfl (ev_up (Nat.le_trans (Nat.le_of_ble_eq_true rfl) hD) (sn_Trees_part g28 c31)) ?_
        refine bk_b (q := (86, [(3, .int x3), (0, .ref 128), (1, .int p1), (2, .int p2)], [.int (p2 + (1 : Int32)), .int x30, .ref 128])) tb_c_133_1 mx_133 3 rfl ?_
        obtain ⟨S32, c34, h⟩ := wd_dx h
        refine bk_kv tb_c_133_1 rfl rfl rfl rfl rfl (ci := 3) rfl rfl (hs130 c34) ?_
        refine bk_b (q := (92, [(3, .int x3), (0, .ref 128), (1, .int p1), (2, .int p2)], [.int (41 : Int32), .ref 128])) tb_c_133_1 mx_133 2 rfl ?_
        obtain ⟨S35, c37, h⟩ := wd_dx h
        refine bk_kv tb_c_133_1 rfl rfl rfl rfl rfl (ci := 3) rfl rfl (ev_up (Nat.le_trans (Nat.le_of_ble_eq_true rfl) hD) (sn_Printer_put c37)) ?_
        cases h
        exact bk_t tb_c_133_1 rfl rfl
      · rw [if_neg g28] at h; cases h
    · rw [if_neg g18] at h; cases h
  · rw [if_neg g1] at h; cases h
