/-! Methods as functions: printed by wip/whole/gen_fn.py. -/
theorem mx_124 : mi_mx tb_P 124 = 1 := rfl
/-- Specialiser.print()I -/
noncomputable def fn_Sp_print (S : wd_S) : Option ((Int32 ⊕ String) × wd_S) :=
  (if tp_t (S.2.2.1 1 7) = (0, 9) then
    (wd_c (fn_Versions_count (S.2.2.1 1 7) S) fun x3 S2 =>
    (if x3 = 0 then
      some (.inr "java/lang/IllegalStateException", wd_n S2)
    else
      (if tp_t (S2.2.2.1 1 7) = (0, 9) then
        (wd_c (fn_Printer_showAll (S2.2.2.1 1 7) (0 : Int32) S2) fun x8 S7 =>
        (if (40000 : Int32) < x8 then
          some (.inr "java/lang/UnsupportedOperationException", wd_n S7)
        else
          (if tp_t (S7.2.2.1 1 7) = (0, 9) then
            (wd_c (fn_Printer_showAll (S7.2.2.1 1 7) (1 : Int32) S7) fun x13 S12 =>
            (wd_b (wd_i S12 1 15 x13) fun S15 =>
            some (.inl (S15.1 1 15), S15)))
          else none)))
      else none)))
  else none)
set_option maxRecDepth 100000 in
theorem sn_Sp_print {L : Nat} {xs : Nat → Int32} {S : wd_S} {x : Int32 ⊕ String} {S' : wd_S} (h : fn_Sp_print  S = some (x, S')) : ev_r tb_P L xs (206 + 1) 124 [.ref 1] (wd_k S) (wd_wi x, wd_k S') := by
  unfold fn_Sp_print at h
  refine ev_of (Nat.le_of_ble_eq_true rfl) ?_
  show go_r tb_P L xs 206 124 0 [(0, .ref 1)] [] (wd_k S) (wd_wi x, wd_k S')
  refine bk_b (q := (1, [(0, .ref 1)], [.ref 1])) tb_c_124_0 mx_124 1 rfl ?_
  refine bk_gm tb_c_124_0 rfl rfl (ci := 10) (k := 7) rfl rfl rfl ?_
  by_cases g1 : tp_t (S.2.2.1 1 7) = (0, 9)
  · rw [if_pos g1] at h
    obtain ⟨x3, S2, c4, h⟩ := wd_cx h
    refine bk_kv tb_c_124_0 rfl rfl rfl rfl rfl (ci := 9) g1 rfl (ev_up (Nat.le_of_ble_eq_true rfl) (sn_Versions_count g1 c4)) ?_
    by_cases g5 : x3 = 0
    · rw [if_pos g5] at h
      refine bk_zf tb_c_124_0 rfl (pc' := 10) rfl (t := 20) rfl (cm_ne_f g5) ?_
      cases h
      exact bk_x rfl
    · rw [if_neg g5] at h
      refine bk_zt tb_c_124_0 rfl (pc' := 20) rfl (cm_ne_t g5) ?_
      refine bk_b (q := (21, [(0, .ref 1)], [.ref 1])) tb_c_124_0 mx_124 1 rfl ?_
      refine bk_gc tb_c_124_0 rfl rfl (ci := 10) (k := 16) rfl rfl rfl ?_
      refine bk_b (q := (25, [(0, .ref 1)], [.ref 1, .ref 128])) tb_c_124_0 mx_124 1 rfl ?_
      refine bk_gm tb_c_124_0 rfl rfl (ci := 10) (k := 7) rfl rfl rfl ?_
      by_cases g6 : tp_t (S2.2.2.1 1 7) = (0, 9)
      · rw [if_pos g6] at h
        refine bk_b (q := (29, [(0, .ref 1)], [.int (0 : Int32), .ref (S2.2.2.1 1 7), .ref 128])) tb_c_124_0 mx_124 1 rfl ?_
        obtain ⟨x8, S7, c9, h⟩ := wd_cx h
        refine bk_kv tb_c_124_0 rfl rfl rfl rfl rfl (ci := 3) rfl rfl (ev_up (Nat.le_of_ble_eq_true rfl) (sn_Printer_showAll g6 c9)) ?_
        refine bk_c4 tb_c_124_0 rfl rfl (x := (40000 : Int32)) rfl ?_
        by_cases g10 : (40000 : Int32) < x8
        · rw [if_pos g10] at h
          refine bk_jf tb_c_124_0 rfl (pc' := 37) rfl (t := 47) rfl (cm_le_f g10) ?_
          cases h
          exact bk_x rfl
        · rw [if_neg g10] at h
          refine bk_jt tb_c_124_0 rfl (pc' := 47) rfl (cm_le_t g10) ?_
          refine bk_b (q := (49, [(0, .ref 1)], [.ref 1, .ref 1])) tb_c_124_0 mx_124 2 rfl ?_
          refine bk_gc tb_c_124_0 rfl rfl (ci := 10) (k := 16) rfl rfl rfl ?_
          refine bk_b (q := (53, [(0, .ref 1)], [.ref 1, .ref 128, .ref 1])) tb_c_124_0 mx_124 1 rfl ?_
          refine bk_gm tb_c_124_0 rfl rfl (ci := 10) (k := 7) rfl rfl rfl ?_
          by_cases g11 : tp_t (S7.2.2.1 1 7) = (0, 9)
          · rw [if_pos g11] at h
            refine bk_b (q := (57, [(0, .ref 1)], [.int (1 : Int32), .ref (S7.2.2.1 1 7), .ref 128, .ref 1])) tb_c_124_0 mx_124 1 rfl ?_
            obtain ⟨x13, S12, c14, h⟩ := wd_cx h
            refine bk_kv tb_c_124_0 rfl rfl rfl rfl rfl (ci := 3) rfl rfl (ev_up (Nat.le_of_ble_eq_true rfl) (sn_Printer_showAll g11 c14)) ?_
            obtain ⟨S15, eS15, h⟩ := wd_bx h
            refine bk_pi tb_c_124_0 rfl rfl (ci := 10) (k := 15) rfl rfl rfl rfl ?_
            rw [eS15]
            refine bk_b (q := (64, [(0, .ref 1)], [.ref 1])) tb_c_124_0 mx_124 1 rfl ?_
            refine bk_gi tb_c_124_0 rfl rfl (ci := 10) (k := 15) rfl rfl rfl ?_
            cases h
            exact bk_t tb_c_124_0 rfl rfl
          · rw [if_neg g11] at h; cases h
      · rw [if_neg g6] at h; cases h
  · rw [if_neg g1] at h; cases h
theorem mx_138 : mi_mx tb_P 138 = 2 := rfl
noncomputable def fn_Sp_out_12 (S : wd_S) : Option ((Int32 ⊕ String) × wd_S) :=
  some (.inr "java/lang/IndexOutOfBoundsException", wd_n S)
set_option maxRecDepth 100000 in
theorem sn_Sp_out_12 {L : Nat} {xs : Nat → Int32} {S : wd_S} {x : Int32 ⊕ String} {S' : wd_S} (h : fn_Sp_out_12  S = some (x, S')) : go_r tb_P L xs 1 138 12 [] [] (wd_k S) (wd_wi x, wd_k S') := by
  unfold fn_Sp_out_12 at h
  cases h
  exact bk_x rfl
/-- Specialiser.out(I)I -/
noncomputable def fn_Sp_out (p1 : Int32) (S : wd_S) : Option ((Int32 ⊕ String) × wd_S) :=
  (if p1 < 0 then
    fn_Sp_out_12  S
  else
    (if p1 < (S.1 1 15) then
      (wd_c (fn_Row_at 126 p1 S) fun x4 S3 =>
      some (.inl x4, S3))
    else
      fn_Sp_out_12  S))
set_option maxRecDepth 100000 in
theorem sn_Sp_out {L : Nat} {xs : Nat → Int32} {p1 : Int32} {S : wd_S} {x : Int32 ⊕ String} {S' : wd_S} (h : fn_Sp_out p1 S = some (x, S')) : ev_r tb_P L xs (1 + 1) 138 [.ref 1, .int p1] (wd_k S) (wd_wi x, wd_k S') := by
  unfold fn_Sp_out at h
  refine ev_of (Nat.le_of_ble_eq_true rfl) ?_
  show go_r tb_P L xs 1 138 0 [(0, .ref 1), (1, .int p1)] [] (wd_k S) (wd_wi x, wd_k S')
  refine bk_b (q := (1, [(0, .ref 1), (1, .int p1)], [.int p1])) tb_c_138_0 mx_138 1 rfl ?_
  by_cases g1 : p1 < 0
  · rw [if_pos g1] at h
    refine bk_zt tb_c_138_0 rfl (pc' := 12) rfl (cm_lt_t g1) ?_
    exact go_lv ls_nil (sn_Sp_out_12 h)
  · rw [if_neg g1] at h
    refine bk_zf tb_c_138_0 rfl (pc' := 4) rfl (t := 12) rfl (cm_lt_f g1) ?_
    refine bk_b (q := (6, [(0, .ref 1), (1, .int p1)], [.ref 1, .int p1])) tb_c_138_0 mx_138 2 rfl ?_
    refine bk_gi tb_c_138_0 rfl rfl (ci := 10) (k := 15) rfl rfl rfl ?_
    by_cases g2 : p1 < (S.1 1 15)
    · rw [if_pos g2] at h
      refine bk_jt tb_c_138_0 rfl (pc' := 22) rfl (cm_lt_t g2) ?_
      refine bk_b (q := (23, [(0, .ref 1), (1, .int p1)], [.ref 1])) tb_c_138_0 mx_138 1 rfl ?_
      refine bk_gc tb_c_138_0 rfl rfl (ci := 10) (k := 14) rfl rfl rfl ?_
      refine bk_b (q := (27, [(0, .ref 1), (1, .int p1)], [.int p1, .ref 126])) tb_c_138_0 mx_138 1 rfl ?_
      obtain ⟨x4, S3, c5, h⟩ := wd_cx h
      refine bk_kv tb_c_138_0 rfl rfl rfl rfl rfl (ci := 5) rfl rfl (ev_up (Nat.le_of_ble_eq_true rfl) (sn_Row_at rfl c5)) ?_
      cases h
      exact bk_t tb_c_138_0 rfl rfl
    · rw [if_neg g2] at h
      refine bk_jf tb_c_138_0 rfl (pc' := 12) rfl (t := 22) rfl (cm_lt_f g2) ?_
      exact go_lv ls_nil (sn_Sp_out_12 h)
theorem mx_139 : mi_mx tb_P 139 = 2 := rfl
noncomputable def fn_Sp_back_22 : Nat → Int32 → wd_S → Option ((Int32 ⊕ String) × wd_S)
  | 0, _, _ => none
  | n + 1, l1, S =>
    (if l1 < (S.1 1 15) then
      (wd_c (fn_Row_at 126 l1 S) fun x5 S4 =>
      (wd_d (fn_Row_put 2 l1 x5 S4) fun S7 =>
      fn_Sp_back_22 n (l1 + (1 : Int32)) S7))
    else
      (wd_b (wd_i S 1 1 (S.1 1 15)) fun S3 =>
      some (.inl (S3.1 1 1), S3)))
set_option maxRecDepth 100000 in
theorem sn_Sp_back_22 {L : Nat} {xs : Nat → Int32} : ∀ (n : Nat) {l1 : Int32} {S : wd_S} {x : Int32 ⊕ String} {S' : wd_S}, fn_Sp_back_22 n l1 S = some (x, S') → go_r tb_P L xs 1 139 22 [(0, .ref 1), (1, .int l1)] [] (wd_k S) (wd_wi x, wd_k S') := by
  intro n
  induction n with
  | zero => intro l1 S x S'  h; cases h
  | succ n ih =>
    intro l1 S x S'  h
    rw [fn_Sp_back_22] at h
    refine bk_b (q := (24, [(0, .ref 1), (1, .int l1)], [.ref 1, .int l1])) tb_c_139_0 mx_139 2 rfl ?_
    refine bk_gi tb_c_139_0 rfl rfl (ci := 10) (k := 15) rfl rfl rfl ?_
    by_cases g2 : l1 < (S.1 1 15)
    · rw [if_pos g2] at h
      refine bk_jf tb_c_139_0 rfl (pc' := 30) rfl (t := 52) rfl (cm_ge_f g2) ?_
      refine bk_b (q := (31, [(0, .ref 1), (1, .int l1)], [.ref 1])) tb_c_139_0 mx_139 1 rfl ?_
      refine bk_gc tb_c_139_0 rfl rfl (ci := 10) (k := 0) rfl rfl rfl ?_
      refine bk_b (q := (36, [(0, .ref 1), (1, .int l1)], [.ref 1, .int l1, .ref 2])) tb_c_139_0 mx_139 2 rfl ?_
      refine bk_gc tb_c_139_0 rfl rfl (ci := 10) (k := 14) rfl rfl rfl ?_
      refine bk_b (q := (40, [(0, .ref 1), (1, .int l1)], [.int l1, .ref 126, .int l1, .ref 2])) tb_c_139_0 mx_139 1 rfl ?_
      obtain ⟨x5, S4, c6, h⟩ := wd_cx h
      refine bk_kv tb_c_139_0 rfl rfl rfl rfl rfl (ci := 5) rfl rfl (ev_up (Nat.le_of_ble_eq_true rfl) (sn_Row_at rfl c6)) ?_
      obtain ⟨S7, c9, h⟩ := wd_dx h
      refine bk_kv tb_c_139_0 rfl rfl rfl rfl rfl (ci := 5) rfl rfl (ev_up (Nat.le_of_ble_eq_true rfl) (sn_Row_put rfl c9)) ?_
      refine bk_b (q := (22, [(1, .int (l1 + (1 : Int32))), (0, .ref 1)], [])) tb_c_139_0 mx_139 2 rfl ?_
      exact go_lv (ls_sc rfl rfl (ls_sc rfl rfl ls_nil)) (ih h)
    · rw [if_neg g2] at h
      refine bk_jt tb_c_139_0 rfl (pc' := 52) rfl (cm_ge_t g2) ?_
      refine bk_b (q := (54, [(0, .ref 1), (1, .int l1)], [.ref 1, .ref 1])) tb_c_139_0 mx_139 2 rfl ?_
      refine bk_gi tb_c_139_0 rfl rfl (ci := 10) (k := 15) rfl rfl rfl ?_
      obtain ⟨S3, eS3, h⟩ := wd_bx h
      refine bk_pi tb_c_139_0 rfl rfl (ci := 10) (k := 1) rfl rfl rfl rfl ?_
      rw [eS3]
      refine bk_b (q := (61, [(0, .ref 1), (1, .int l1)], [.ref 1])) tb_c_139_0 mx_139 1 rfl ?_
      refine bk_gi tb_c_139_0 rfl rfl (ci := 10) (k := 1) rfl rfl rfl ?_
      cases h
      exact bk_t tb_c_139_0 rfl rfl
/-- Specialiser.back()I -/
noncomputable def fn_Sp_back (S : wd_S) : Option ((Int32 ⊕ String) × wd_S) :=
  (if (8000 : Int32) < (S.1 1 15) then
    some (.inr "java/lang/IllegalStateException", wd_n S)
  else
    fn_Sp_back_22 wd_F (0 : Int32) S)
set_option maxRecDepth 100000 in
theorem sn_Sp_back {L : Nat} {xs : Nat → Int32} {S : wd_S} {x : Int32 ⊕ String} {S' : wd_S} (h : fn_Sp_back  S = some (x, S')) : ev_r tb_P L xs (1 + 1) 139 [.ref 1] (wd_k S) (wd_wi x, wd_k S') := by
  unfold fn_Sp_back at h
  refine ev_of (Nat.le_of_ble_eq_true rfl) ?_
  show go_r tb_P L xs 1 139 0 [(0, .ref 1)] [] (wd_k S) (wd_wi x, wd_k S')
  refine bk_b (q := (1, [(0, .ref 1)], [.ref 1])) tb_c_139_0 mx_139 1 rfl ?_
  refine bk_gi tb_c_139_0 rfl rfl (ci := 10) (k := 15) rfl rfl rfl ?_
  refine bk_b (q := (7, [(0, .ref 1)], [.int (8000 : Int32), .int (S.1 1 15)])) tb_c_139_0 mx_139 1 rfl ?_
  by_cases g1 : (8000 : Int32) < (S.1 1 15)
  · rw [if_pos g1] at h
    refine bk_jf tb_c_139_0 rfl (pc' := 10) rfl (t := 20) rfl (cm_le_f g1) ?_
    cases h
    exact bk_x rfl
  · rw [if_neg g1] at h
    refine bk_jt tb_c_139_0 rfl (pc' := 20) rfl (cm_le_t g1) ?_
    refine bk_b (q := (22, [(1, .int (0 : Int32)), (0, .ref 1)], [])) tb_c_139_0 mx_139 2 rfl ?_
    exact go_lv (ls_sc rfl rfl (ls_sc rfl rfl ls_nil)) (sn_Sp_back_22 wd_F h)
theorem mx_140 : mi_mx tb_P 140 = 2 := rfl
/-- Specialiser.give(I)I -/
noncomputable def fn_Sp_give (p1 : Int32) (S : wd_S) : Option ((Int32 ⊕ String) × wd_S) :=
  (if (S.1 1 18) < (4 : Int32) then
    (wd_d (fn_Row_put 131 (S.1 1 18) p1 S) fun S2 =>
    (wd_b (wd_i S2 1 18 ((S2.1 1 18) + (1 : Int32))) fun S5 =>
    some (.inl (S5.1 1 18), S5)))
  else
    some (.inr "java/lang/IllegalStateException", wd_n S))
set_option maxRecDepth 100000 in
theorem sn_Sp_give {L : Nat} {xs : Nat → Int32} {p1 : Int32} {S : wd_S} {x : Int32 ⊕ String} {S' : wd_S} (h : fn_Sp_give p1 S = some (x, S')) : ev_r tb_P L xs (1 + 1) 140 [.ref 1, .int p1] (wd_k S) (wd_wi x, wd_k S') := by
  unfold fn_Sp_give at h
  refine ev_of (Nat.le_of_ble_eq_true rfl) ?_
  show go_r tb_P L xs 1 140 0 [(0, .ref 1), (1, .int p1)] [] (wd_k S) (wd_wi x, wd_k S')
  refine bk_b (q := (1, [(0, .ref 1), (1, .int p1)], [.ref 1])) tb_c_140_0 mx_140 1 rfl ?_
  refine bk_gi tb_c_140_0 rfl rfl (ci := 10) (k := 18) rfl rfl rfl ?_
  refine bk_b (q := (5, [(0, .ref 1), (1, .int p1)], [.int (4 : Int32), .int (S.1 1 18)])) tb_c_140_0 mx_140 1 rfl ?_
  by_cases g1 : (S.1 1 18) < (4 : Int32)
  · rw [if_pos g1] at h
    refine bk_jt tb_c_140_0 rfl (pc' := 18) rfl (cm_lt_t g1) ?_
    refine bk_b (q := (19, [(0, .ref 1), (1, .int p1)], [.ref 1])) tb_c_140_0 mx_140 1 rfl ?_
    refine bk_gc tb_c_140_0 rfl rfl (ci := 10) (k := 17) rfl rfl rfl ?_
    refine bk_b (q := (23, [(0, .ref 1), (1, .int p1)], [.ref 1, .ref 131])) tb_c_140_0 mx_140 1 rfl ?_
    refine bk_gi tb_c_140_0 rfl rfl (ci := 10) (k := 18) rfl rfl rfl ?_
    refine bk_b (q := (27, [(0, .ref 1), (1, .int p1)], [.int p1, .int (S.1 1 18), .ref 131])) tb_c_140_0 mx_140 1 rfl ?_
    obtain ⟨S2, c4, h⟩ := wd_dx h
    refine bk_kv tb_c_140_0 rfl rfl rfl rfl rfl (ci := 5) rfl rfl (ev_up (Nat.le_of_ble_eq_true rfl) (sn_Row_put rfl c4)) ?_
    refine bk_b (q := (32, [(0, .ref 1), (1, .int p1)], [.ref 1, .ref 1])) tb_c_140_0 mx_140 2 rfl ?_
    refine bk_gi tb_c_140_0 rfl rfl (ci := 10) (k := 18) rfl rfl rfl ?_
    refine bk_b (q := (37, [(0, .ref 1), (1, .int p1)], [.int ((S2.1 1 18) + (1 : Int32)), .ref 1])) tb_c_140_0 mx_140 2 rfl ?_
    obtain ⟨S5, eS5, h⟩ := wd_bx h
    refine bk_pi tb_c_140_0 rfl rfl (ci := 10) (k := 18) rfl rfl rfl rfl ?_
    rw [eS5]
    refine bk_b (q := (41, [(0, .ref 1), (1, .int p1)], [.ref 1])) tb_c_140_0 mx_140 1 rfl ?_
    refine bk_gi tb_c_140_0 rfl rfl (ci := 10) (k := 18) rfl rfl rfl ?_
    cases h
    exact bk_t tb_c_140_0 rfl rfl
  · rw [if_neg g1] at h
    refine bk_jf tb_c_140_0 rfl (pc' := 8) rfl (t := 18) rfl (cm_lt_f g1) ?_
    cases h
    exact bk_x rfl
theorem mx_142 : mi_mx tb_P 142 = 1 := rfl
/-- Specialiser$Runner.steps()I -/
noncomputable def fn_Runner_steps (S : wd_S) : Option (Int32 × wd_S) :=
  some (S.1 104 9, S)
set_option maxRecDepth 100000 in
theorem sn_Runner_steps {L : Nat} {xs : Nat → Int32} {S : wd_S} {x : Int32} {S' : wd_S} (h : fn_Runner_steps  S = some (x, S')) : ev_r tb_P L xs (0 + 1) 142 [.ref 104] (wd_k S) (.inl (some (.int x)), wd_k S') := by
  unfold fn_Runner_steps at h
  refine ev_of (Nat.le_of_ble_eq_true rfl) ?_
  show go_r tb_P L xs 0 142 0 [(0, .ref 104)] [] (wd_k S) (.inl (some (.int x)), wd_k S')
  refine bk_b (q := (1, [(0, .ref 104)], [.ref 104])) tb_c_142_0 mx_142 1 rfl ?_
  refine bk_gi tb_c_142_0 rfl rfl (ci := 6) (k := 9) rfl rfl rfl ?_
  cases h
  exact bk_t tb_c_142_0 rfl rfl
theorem mx_143 : mi_mx tb_P 143 = 1 := rfl
/-- Specialiser$Runner.deepest()I -/
noncomputable def fn_Runner_deepest (S : wd_S) : Option (Int32 × wd_S) :=
  some (S.1 104 10, S)
set_option maxRecDepth 100000 in
theorem sn_Runner_deepest {L : Nat} {xs : Nat → Int32} {S : wd_S} {x : Int32} {S' : wd_S} (h : fn_Runner_deepest  S = some (x, S')) : ev_r tb_P L xs (0 + 1) 143 [.ref 104] (wd_k S) (.inl (some (.int x)), wd_k S') := by
  unfold fn_Runner_deepest at h
  refine ev_of (Nat.le_of_ble_eq_true rfl) ?_
  show go_r tb_P L xs 0 143 0 [(0, .ref 104)] [] (wd_k S) (.inl (some (.int x)), wd_k S')
  refine bk_b (q := (1, [(0, .ref 104)], [.ref 104])) tb_c_143_0 mx_143 1 rfl ?_
  refine bk_gi tb_c_143_0 rfl rfl (ci := 6) (k := 10) rfl rfl rfl ?_
  cases h
  exact bk_t tb_c_143_0 rfl rfl
theorem mx_141 : mi_mx tb_P 141 = 6 := rfl
noncomputable def fn_Sp_run_81 (S : wd_S) : Option ((Int32 ⊕ String) × wd_S) :=
  some (.inr "java/lang/IllegalArgumentException", wd_n S)
set_option maxRecDepth 100000 in
theorem sn_Sp_run_81 {L : Nat} {xs : Nat → Int32} {S : wd_S} {x : Int32 ⊕ String} {S' : wd_S} (h : fn_Sp_run_81  S = some (x, S')) : go_r tb_P L xs 4 141 81 [] [] (wd_k S) (wd_wi x, wd_k S') := by
  unfold fn_Sp_run_81 at h
  cases h
  exact bk_x rfl
noncomputable def fn_Sp_run_135 (l5 : Int32) (s1 : Int32) (s2 : Int32) (S : wd_S) : Option ((Int32 ⊕ String) × wd_S) :=
  (wd_d (fn_Row_put 133 s1 s2 S) fun S22 =>
  (wd_c (fn_Runner_steps  S22) fun x26 S25 =>
  (wd_d (fn_Row_put 133 (1 : Int32) x26 S25) fun S28 =>
  (wd_c (fn_Runner_deepest  S28) fun x32 S31 =>
  (wd_d (fn_Row_put 133 (2 : Int32) x32 S31) fun S34 =>
  some (.inl l5, S34))))))
set_option maxRecDepth 100000 in
theorem sn_Sp_run_135 {L : Nat} {xs : Nat → Int32} {l5 : Int32} {s1 : Int32} {s2 : Int32} {S : wd_S} {x : Int32 ⊕ String} {S' : wd_S} (h : fn_Sp_run_135 l5 s1 s2 S = some (x, S')) : go_r tb_P L xs 4 141 135 [(0, .ref 1), (5, .int l5)] [.int s2, .int s1, .ref 133] (wd_k S) (wd_wi x, wd_k S') := by
  unfold fn_Sp_run_135 at h
  obtain ⟨S22, c24, h⟩ := wd_dx h
  refine bk_kv tb_c_141_1 rfl rfl rfl rfl rfl (ci := 5) rfl rfl (ev_up (Nat.le_of_ble_eq_true rfl) (sn_Row_put rfl c24)) ?_
  refine bk_b (q := (139, [(0, .ref 1), (5, .int l5)], [.ref 1])) tb_c_141_1 mx_141 1 rfl ?_
  refine bk_gc tb_c_141_1 rfl rfl (ci := 10) (k := 19) rfl rfl rfl ?_
  refine bk_b (q := (144, [(0, .ref 1), (5, .int l5)], [.ref 1, .int (1 : Int32), .ref 133])) tb_c_141_1 mx_141 2 rfl ?_
  refine bk_gc tb_c_141_1 rfl rfl (ci := 10) (k := 9) rfl rfl rfl ?_
  obtain ⟨x26, S25, c27, h⟩ := wd_cx h
  refine bk_kv tb_c_141_1 rfl rfl rfl rfl rfl (ci := 6) rfl rfl (ev_up (Nat.le_of_ble_eq_true rfl) (sn_Runner_steps c27)) ?_
  obtain ⟨S28, c30, h⟩ := wd_dx h
  refine bk_kv tb_c_141_1 rfl rfl rfl rfl rfl (ci := 5) rfl rfl (ev_up (Nat.le_of_ble_eq_true rfl) (sn_Row_put rfl c30)) ?_
  refine bk_b (q := (154, [(0, .ref 1), (5, .int l5)], [.ref 1])) tb_c_141_1 mx_141 1 rfl ?_
  refine bk_gc tb_c_141_1 rfl rfl (ci := 10) (k := 19) rfl rfl rfl ?_
  refine bk_b (q := (159, [(0, .ref 1), (5, .int l5)], [.ref 1, .int (2 : Int32), .ref 133])) tb_c_141_1 mx_141 2 rfl ?_
  refine bk_gc tb_c_141_1 rfl rfl (ci := 10) (k := 9) rfl rfl rfl ?_
  obtain ⟨x32, S31, c33, h⟩ := wd_cx h
  refine bk_kv tb_c_141_1 rfl rfl rfl rfl rfl (ci := 6) rfl rfl (ev_up (Nat.le_of_ble_eq_true rfl) (sn_Runner_deepest c33)) ?_
  obtain ⟨S34, c36, h⟩ := wd_dx h
  refine bk_kv tb_c_141_1 rfl rfl rfl rfl rfl (ci := 5) rfl rfl (ev_up (Nat.le_of_ble_eq_true rfl) (sn_Row_put rfl c36)) ?_
  refine bk_b (q := (170, [(0, .ref 1), (5, .int l5)], [.int l5])) tb_c_141_1 mx_141 1 rfl ?_
  cases h
  exact bk_t tb_c_141_1 rfl rfl
noncomputable def fn_Sp_run_18 (l2 : Int32) (l3 : Int32) (s0 : Nat) (S : wd_S) : Option ((Int32 ⊕ String) × wd_S) :=
  (wd_c (fn_Bodies_count s0 S) fun x4 S3 =>
  (if x4 = 0 then
    some (.inr "java/lang/IllegalStateException", wd_n S3)
  else
    (wd_c (fn_Bodies_has s0 l2 S3) fun x8 S7 =>
    (if x8 = 0 then
      some (.inr "java/lang/IndexOutOfBoundsException", wd_n S7)
    else
      (if l3 < 0 then
        fn_Sp_run_81  S7
      else
        (if (20000 : Int32) < l3 then
          fn_Sp_run_81  S7
        else
          (wd_c (fn_Bodies_params s0 l2 S7) fun x14 S13 =>
          (if (S7.1 1 18) = x14 then
            (wd_b (wd_i S13 1 18 (0 : Int32)) fun S17 =>
            (wd_c (fn_Runner_work s0 l2 131 l3 S17) fun x19 S18 =>
            (if x19 = (1 : Int32) then
              (wd_c (fn_Runner_result  S18) fun x38 S37 =>
              fn_Sp_run_135 x19 (0 : Int32) x38 S37)
            else
              fn_Sp_run_135 x19 (0 : Int32) (0 : Int32) S18)))
          else
            fn_Sp_run_81  S13))))))))
set_option maxRecDepth 100000 in
theorem sn_Sp_run_18 {L : Nat} {xs : Nat → Int32} {l2 : Int32} {l3 : Int32} {s0 : Nat} {S : wd_S} {x : Int32 ⊕ String} {S' : wd_S} (hs0 : tp_t s0 = (0, 0)) (h : fn_Sp_run_18 l2 l3 s0 S = some (x, S')) : go_r tb_P L xs 4 141 18 [(0, .ref 1), (2, .int l2), (3, .int l3)] [.ref s0] (wd_k S) (wd_wi x, wd_k S') := by
  unfold fn_Sp_run_18 at h
  refine bk_b (q := (22, [(4, .ref s0), (0, .ref 1), (2, .int l2), (3, .int l3)], [.ref s0])) tb_c_141_0 mx_141 2 rfl ?_
  obtain ⟨x4, S3, c5, h⟩ := wd_cx h
  refine bk_kv tb_c_141_0 rfl rfl rfl rfl rfl (ci := 0) hs0 rfl (ev_up (Nat.le_of_ble_eq_true rfl) (sn_Bodies_count hs0 c5)) ?_
  by_cases g6 : x4 = 0
  · rw [if_pos g6] at h
    refine bk_zf tb_c_141_0 rfl (pc' := 28) rfl (t := 38) rfl (cm_ne_f g6) ?_
    cases h
    exact bk_x rfl
  · rw [if_neg g6] at h
    refine bk_zt tb_c_141_0 rfl (pc' := 38) rfl (cm_ne_t g6) ?_
    refine bk_b (q := (41, [(4, .ref s0), (0, .ref 1), (2, .int l2), (3, .int l3)], [.int l2, .ref s0])) tb_c_141_0 mx_141 2 rfl ?_
    obtain ⟨x8, S7, c9, h⟩ := wd_cx h
    refine bk_kv tb_c_141_0 rfl rfl rfl rfl rfl (ci := 0) hs0 rfl (ev_up (Nat.le_of_ble_eq_true rfl) (sn_Bodies_has hs0 c9)) ?_
    by_cases g10 : x8 = 0
    · rw [if_pos g10] at h
      refine bk_zf tb_c_141_0 rfl (pc' := 47) rfl (t := 57) rfl (cm_ne_f g10) ?_
      cases h
      exact bk_x rfl
    · rw [if_neg g10] at h
      refine bk_zt tb_c_141_0 rfl (pc' := 57) rfl (cm_ne_t g10) ?_
      refine bk_b (q := (58, [(4, .ref s0), (0, .ref 1), (2, .int l2), (3, .int l3)], [.int l3])) tb_c_141_0 mx_141 1 rfl ?_
      by_cases g11 : l3 < 0
      · rw [if_pos g11] at h
        refine bk_zt tb_c_141_0 rfl (pc' := 81) rfl (cm_lt_t g11) ?_
        exact go_lv ls_nil (sn_Sp_run_81 h)
      · rw [if_neg g11] at h
        refine bk_zf tb_c_141_0 rfl (pc' := 61) rfl (t := 81) rfl (cm_lt_f g11) ?_
        refine bk_b (q := (65, [(4, .ref s0), (0, .ref 1), (2, .int l2), (3, .int l3)], [.int (20000 : Int32), .int l3])) tb_c_141_0 mx_141 2 rfl ?_
        by_cases g12 : (20000 : Int32) < l3
        · rw [if_pos g12] at h
          refine bk_jt tb_c_141_0 rfl (pc' := 81) rfl (cm_gt_t g12) ?_
          exact go_lv ls_nil (sn_Sp_run_81 h)
        · rw [if_neg g12] at h
          refine bk_jf tb_c_141_0 rfl (pc' := 68) rfl (t := 81) rfl (cm_gt_f g12) ?_
          refine bk_b (q := (69, [(4, .ref s0), (0, .ref 1), (2, .int l2), (3, .int l3)], [.ref 1])) tb_c_141_0 mx_141 1 rfl ?_
          refine bk_gi tb_c_141_0 rfl rfl (ci := 10) (k := 18) rfl rfl rfl ?_
          refine bk_b (q := (75, [(4, .ref s0), (0, .ref 1), (2, .int l2), (3, .int l3)], [.int l2, .ref s0, .int (S7.1 1 18)])) tb_c_141_0 mx_141 2 rfl ?_
          obtain ⟨x14, S13, c15, h⟩ := wd_cx h
          refine bk_kv tb_c_141_0 rfl rfl rfl rfl rfl (ci := 0) hs0 rfl (ev_up (Nat.le_of_ble_eq_true rfl) (sn_Bodies_params hs0 c15)) ?_
          by_cases g16 : (S7.1 1 18) = x14
          · rw [if_pos g16] at h
            refine bk_jt tb_c_141_0 rfl (pc' := 91) rfl (cm_eq_t g16) ?_
            refine bk_b (q := (93, [(4, .ref s0), (0, .ref 1), (2, .int l2), (3, .int l3)], [.int (0 : Int32), .ref 1])) tb_c_141_0 mx_141 2 rfl ?_
            obtain ⟨S17, eS17, h⟩ := wd_bx h
            refine bk_pi tb_c_141_0 rfl rfl (ci := 10) (k := 18) rfl rfl rfl rfl ?_
            rw [eS17]
            refine bk_b (q := (97, [(4, .ref s0), (0, .ref 1), (2, .int l2), (3, .int l3)], [.ref 1])) tb_c_141_0 mx_141 1 rfl ?_
            refine bk_gc tb_c_141_0 rfl rfl (ci := 10) (k := 9) rfl rfl rfl ?_
            refine bk_b (q := (104, [(4, .ref s0), (0, .ref 1), (2, .int l2), (3, .int l3)], [.ref 1, .int l2, .ref s0, .ref 104])) tb_c_141_0 mx_141 3 rfl ?_
            refine bk_gc tb_c_141_0 rfl rfl (ci := 10) (k := 17) rfl rfl rfl ?_
            refine bk_b (q := (108, [(4, .ref s0), (0, .ref 1), (2, .int l2), (3, .int l3)], [.int l3, .ref 131, .int l2, .ref s0, .ref 104])) tb_c_141_0 mx_141 1 rfl ?_
            obtain ⟨x19, S18, c20, h⟩ := wd_cx h
            refine bk_kv tb_c_141_0 rfl rfl rfl rfl rfl (ci := 6) rfl rfl (ev_up (Nat.le_of_ble_eq_true rfl) (sn_Runner_work hs0 rfl c20)) ?_
            refine bk_b (q := (114, [(5, .int x19), (4, .ref s0), (0, .ref 1), (2, .int l2), (3, .int l3)], [.ref 1])) tb_c_141_0 mx_141 2 rfl ?_
            refine bk_gc tb_c_141_1 rfl rfl (ci := 10) (k := 19) rfl rfl rfl ?_
            refine bk_b (q := (121, [(5, .int x19), (4, .ref s0), (0, .ref 1), (2, .int l2), (3, .int l3)], [.int (1 : Int32), .int x19, .int (0 : Int32), .ref 133])) tb_c_141_1 mx_141 3 rfl ?_
            by_cases g21 : x19 = (1 : Int32)
            · rw [if_pos g21] at h
              refine bk_jf tb_c_141_1 rfl (pc' := 124) rfl (t := 134) rfl (cm_ne_f g21) ?_
              refine bk_b (q := (125, [(5, .int x19), (4, .ref s0), (0, .ref 1), (2, .int l2), (3, .int l3)], [.ref 1, .int (0 : Int32), .ref 133])) tb_c_141_1 mx_141 1 rfl ?_
              refine bk_gc tb_c_141_1 rfl rfl (ci := 10) (k := 9) rfl rfl rfl ?_
              obtain ⟨x38, S37, c39, h⟩ := wd_cx h
              refine bk_kv tb_c_141_1 rfl rfl rfl rfl rfl (ci := 6) rfl rfl (ev_up (Nat.le_of_ble_eq_true rfl) (sn_Runner_result c39)) ?_
              refine bk_b (q := (135, [(5, .int x19), (4, .ref s0), (0, .ref 1), (2, .int l2), (3, .int l3)], [.int x38, .int (0 : Int32), .ref 133])) tb_c_141_1 mx_141 1 rfl ?_
              exact go_lv (ls_sc rfl rfl (ls_sc rfl rfl ls_nil)) (sn_Sp_run_135 h)
            · rw [if_neg g21] at h
              refine bk_jt tb_c_141_1 rfl (pc' := 134) rfl (cm_ne_t g21) ?_
              refine bk_b (q := (135, [(5, .int x19), (4, .ref s0), (0, .ref 1), (2, .int l2), (3, .int l3)], [.int (0 : Int32), .int (0 : Int32), .ref 133])) tb_c_141_1 mx_141 1 rfl ?_
              exact go_lv (ls_sc rfl rfl (ls_sc rfl rfl ls_nil)) (sn_Sp_run_135 h)
          · rw [if_neg g16] at h
            refine bk_jf tb_c_141_0 rfl (pc' := 81) rfl (t := 91) rfl (cm_eq_f g16) ?_
            exact go_lv ls_nil (sn_Sp_run_81 h)
/-- Specialiser.run(ZII)I -/
noncomputable def fn_Sp_run (p1 : Int32) (p2 : Int32) (p3 : Int32) (S : wd_S) : Option ((Int32 ⊕ String) × wd_S) :=
  (if p1 = 0 then
    (if tp_t (S.2.2.1 1 5) = (0, 0) then
      fn_Sp_run_18 p2 p3 (S.2.2.1 1 5) S
    else none)
  else
    (if tp_t (S.2.2.1 1 7) = (0, 9) then
      (wd_c (fn_Versions_bodies (S.2.2.1 1 7) S) fun x42 S41 => if tp_t x42 = (0, 0) then
        fn_Sp_run_18 p2 p3 x42 S41
      else none)
    else none))
set_option maxRecDepth 100000 in
theorem sn_Sp_run {L : Nat} {xs : Nat → Int32} {p1 : Int32} {p2 : Int32} {p3 : Int32} {S : wd_S} {x : Int32 ⊕ String} {S' : wd_S} (h : fn_Sp_run p1 p2 p3 S = some (x, S')) : ev_r tb_P L xs (4 + 1) 141 [.ref 1, .int p1, .int p2, .int p3] (wd_k S) (wd_wi x, wd_k S') := by
  unfold fn_Sp_run at h
  refine ev_of (Nat.le_of_ble_eq_true rfl) ?_
  show go_r tb_P L xs 4 141 0 [(0, .ref 1), (1, .int p1), (2, .int p2), (3, .int p3)] [] (wd_k S) (wd_wi x, wd_k S')
  refine bk_b (q := (1, [(0, .ref 1), (1, .int p1), (2, .int p2), (3, .int p3)], [.int p1])) tb_c_141_0 mx_141 1 rfl ?_
  by_cases g1 : p1 = 0
  · rw [if_pos g1] at h
    refine bk_zt tb_c_141_0 rfl (pc' := 14) rfl (cm_eq_t g1) ?_
    refine bk_b (q := (15, [(0, .ref 1), (1, .int p1), (2, .int p2), (3, .int p3)], [.ref 1])) tb_c_141_0 mx_141 1 rfl ?_
    refine bk_gm tb_c_141_0 rfl rfl (ci := 10) (k := 5) rfl rfl rfl ?_
    by_cases g2 : tp_t (S.2.2.1 1 5) = (0, 0)
    · rw [if_pos g2] at h
      exact go_lv (ls_sc rfl rfl (ls_sc rfl rfl (ls_sc rfl rfl ls_nil))) (sn_Sp_run_18 g2 h)
    · rw [if_neg g2] at h; cases h
  · rw [if_neg g1] at h
    refine bk_zf tb_c_141_0 rfl (pc' := 4) rfl (t := 14) rfl (cm_eq_f g1) ?_
    refine bk_b (q := (5, [(0, .ref 1), (1, .int p1), (2, .int p2), (3, .int p3)], [.ref 1])) tb_c_141_0 mx_141 1 rfl ?_
    refine bk_gm tb_c_141_0 rfl rfl (ci := 10) (k := 7) rfl rfl rfl ?_
    by_cases g40 : tp_t (S.2.2.1 1 7) = (0, 9)
    · rw [if_pos g40] at h
      obtain ⟨x42, S41, c43, h⟩ := wd_cx h
      by_cases g44 : tp_t x42 = (0, 0)
      · rw [if_pos g44] at h
        refine bk_kv tb_c_141_0 rfl rfl rfl rfl rfl (ci := 9) g40 rfl (ev_up (Nat.le_of_ble_eq_true rfl) (sn_Versions_bodies g40 c43)) ?_
        refine bk_b (q := (18, [(0, .ref 1), (1, .int p1), (2, .int p2), (3, .int p3)], [.ref x42])) tb_c_141_0 mx_141 1 rfl ?_
        exact go_lv (ls_sc rfl rfl (ls_sc rfl rfl (ls_sc rfl rfl ls_nil))) (sn_Sp_run_18 g44 h)
      · rw [if_neg g44] at h; cases h
    · rw [if_neg g40] at h; cases h
theorem mx_144 : mi_mx tb_P 144 = 2 := rfl
noncomputable def fn_Sp_ran_9 (S : wd_S) : Option ((Int32 ⊕ String) × wd_S) :=
  some (.inr "java/lang/IndexOutOfBoundsException", wd_n S)
set_option maxRecDepth 100000 in
theorem sn_Sp_ran_9 {L : Nat} {xs : Nat → Int32} {S : wd_S} {x : Int32 ⊕ String} {S' : wd_S} (h : fn_Sp_ran_9  S = some (x, S')) : go_r tb_P L xs 1 144 9 [] [] (wd_k S) (wd_wi x, wd_k S') := by
  unfold fn_Sp_ran_9 at h
  cases h
  exact bk_x rfl
/-- Specialiser.ran(I)I -/
noncomputable def fn_Sp_ran (p1 : Int32) (S : wd_S) : Option ((Int32 ⊕ String) × wd_S) :=
  (if p1 < 0 then
    fn_Sp_ran_9  S
  else
    (if (2 : Int32) < p1 then
      fn_Sp_ran_9  S
    else
      (wd_c (fn_Row_at 133 p1 S) fun x4 S3 =>
      some (.inl x4, S3))))
set_option maxRecDepth 100000 in
theorem sn_Sp_ran {L : Nat} {xs : Nat → Int32} {p1 : Int32} {S : wd_S} {x : Int32 ⊕ String} {S' : wd_S} (h : fn_Sp_ran p1 S = some (x, S')) : ev_r tb_P L xs (1 + 1) 144 [.ref 1, .int p1] (wd_k S) (wd_wi x, wd_k S') := by
  unfold fn_Sp_ran at h
  refine ev_of (Nat.le_of_ble_eq_true rfl) ?_
  show go_r tb_P L xs 1 144 0 [(0, .ref 1), (1, .int p1)] [] (wd_k S) (wd_wi x, wd_k S')
  refine bk_b (q := (1, [(0, .ref 1), (1, .int p1)], [.int p1])) tb_c_144_0 mx_144 1 rfl ?_
  by_cases g1 : p1 < 0
  · rw [if_pos g1] at h
    refine bk_zt tb_c_144_0 rfl (pc' := 9) rfl (cm_lt_t g1) ?_
    exact go_lv ls_nil (sn_Sp_ran_9 h)
  · rw [if_neg g1] at h
    refine bk_zf tb_c_144_0 rfl (pc' := 4) rfl (t := 9) rfl (cm_lt_f g1) ?_
    refine bk_b (q := (6, [(0, .ref 1), (1, .int p1)], [.int (2 : Int32), .int p1])) tb_c_144_0 mx_144 2 rfl ?_
    by_cases g2 : (2 : Int32) < p1
    · rw [if_pos g2] at h
      refine bk_jf tb_c_144_0 rfl (pc' := 9) rfl (t := 19) rfl (cm_le_f g2) ?_
      exact go_lv ls_nil (sn_Sp_ran_9 h)
    · rw [if_neg g2] at h
      refine bk_jt tb_c_144_0 rfl (pc' := 19) rfl (cm_le_t g2) ?_
      refine bk_b (q := (20, [(0, .ref 1), (1, .int p1)], [.ref 1])) tb_c_144_0 mx_144 1 rfl ?_
      refine bk_gc tb_c_144_0 rfl rfl (ci := 10) (k := 19) rfl rfl rfl ?_
      refine bk_b (q := (24, [(0, .ref 1), (1, .int p1)], [.int p1, .ref 133])) tb_c_144_0 mx_144 1 rfl ?_
      obtain ⟨x4, S3, c5, h⟩ := wd_cx h
      refine bk_kv tb_c_144_0 rfl rfl rfl rfl rfl (ci := 5) rfl rfl (ev_up (Nat.le_of_ble_eq_true rfl) (sn_Row_at rfl c5)) ?_
      cases h
      exact bk_t tb_c_144_0 rfl rfl
theorem mx_146 : mi_mx tb_P 146 = 1 := rfl
/-- SpecialiserModel.thrown()I -/
noncomputable def fn_Mo_thrown (S : wd_S) : Option (Int32 × wd_S) :=
  some (S.1 135 0, S)
set_option maxRecDepth 100000 in
theorem sn_Mo_thrown {L : Nat} {xs : Nat → Int32} {S : wd_S} {x : Int32} {S' : wd_S} (h : fn_Mo_thrown  S = some (x, S')) : ev_r tb_P L xs (0 + 1) 146 [.ref 135] (wd_k S) (.inl (some (.int x)), wd_k S') := by
  unfold fn_Mo_thrown at h
  refine ev_of (Nat.le_of_ble_eq_true rfl) ?_
  show go_r tb_P L xs 0 146 0 [(0, .ref 135)] [] (wd_k S) (.inl (some (.int x)), wd_k S')
  refine bk_b (q := (1, [(0, .ref 135)], [.ref 135])) tb_c_146_0 mx_146 1 rfl ?_
  refine bk_gi tb_c_146_0 rfl rfl (ci := 11) (k := 0) rfl rfl rfl ?_
  cases h
  exact bk_t tb_c_146_0 rfl rfl
theorem mx_147 : mi_mx tb_P 147 = 8 := rfl
noncomputable def fn_Mo_feed_87 (kk34 : Int32 → Int32 → Int32 → Int32 → Int32 → Int32 → wd_S → Option (Int32 × wd_S)) (l1 : Int32) (l2 : Int32) (l3 : Int32) (l4 : Int32) (l5 : Int32) (l6 : Int32) (s0 : Int32) (S : wd_S) : Option (Int32 × wd_S) :=
  (if (S.1 135 2) < 0 ∨ 8000 ≤ (S.1 135 2).toNatClampNeg then none else
  (wd_b (wd_i S 136 (S.1 135 2).toNatClampNeg ((s0 >>> (((24 : Int32) - ((8 : Int32) * (l6 - l6 / (4 : Int32) * (4 : Int32)))) &&& 31)) &&& (255 : Int32))) fun S10 =>
  (wd_b (wd_i S10 135 2 ((S10.1 135 2) + (1 : Int32))) fun S11 =>
  kk34 l1 l2 l3 l4 l5 (l6 + (1 : Int32)) S11)))
set_option maxRecDepth 100000 in
theorem sn_Mo_feed_87 {L : Nat} {xs : Nat → Int32} {kk34 : Int32 → Int32 → Int32 → Int32 → Int32 → Int32 → wd_S → Option (Int32 × wd_S)} (hk34 : ∀ {l1 : Int32} {l2 : Int32} {l3 : Int32} {l4 : Int32} {l5 : Int32} {l6 : Int32} {S : wd_S} {x : Int32} {S' : wd_S}, kk34 l1 l2 l3 l4 l5 l6 S = some (x, S') → go_r tb_P L xs 0 147 34 [(0, .ref 135), (1, .int l1), (2, .int l2), (3, .int l3), (4, .int l4), (5, .int l5), (6, .int l6)] [] (wd_k S) (.inl (some (.int x)), wd_k S')) {l1 : Int32} {l2 : Int32} {l3 : Int32} {l4 : Int32} {l5 : Int32} {l6 : Int32} {s0 : Int32} {S : wd_S} {x : Int32} {S' : wd_S} (h : fn_Mo_feed_87 kk34 l1 l2 l3 l4 l5 l6 s0 S = some (x, S')) : go_r tb_P L xs 0 147 87 [(0, .ref 135), (1, .int l1), (2, .int l2), (3, .int l3), (4, .int l4), (5, .int l5), (6, .int l6)] [.int s0] (wd_k S) (.inl (some (.int x)), wd_k S') := by
  unfold fn_Mo_feed_87 at h
  refine bk_b (q := (90, [(7, .int s0), (0, .ref 135), (1, .int l1), (2, .int l2), (3, .int l3), (4, .int l4), (5, .int l5), (6, .int l6)], [.ref 135])) tb_c_147_1 mx_147 2 rfl ?_
  refine bk_gc tb_c_147_1 rfl rfl (ci := 11) (k := 1) rfl rfl rfl ?_
  refine bk_b (q := (94, [(7, .int s0), (0, .ref 135), (1, .int l1), (2, .int l2), (3, .int l3), (4, .int l4), (5, .int l5), (6, .int l6)], [.ref 135, .ref 136])) tb_c_147_1 mx_147 1 rfl ?_
  refine bk_gi tb_c_147_1 rfl rfl (ci := 11) (k := 2) rfl rfl rfl ?_
  refine bk_b (q := (114, [(7, .int s0), (0, .ref 135), (1, .int l1), (2, .int l2), (3, .int l3), (4, .int l4), (5, .int l5), (6, .int l6)], [.int ((s0 >>> (((24 : Int32) - ((8 : Int32) * (l6 - l6 / (4 : Int32) * (4 : Int32)))) &&& 31)) &&& (255 : Int32)), .int (S.1 135 2), .ref 136])) tb_c_147_1 mx_147 11 rfl ?_
  by_cases g9 : (S.1 135 2) < 0 ∨ 8000 ≤ (S.1 135 2).toNatClampNeg
  · rw [if_pos g9] at h; cases h
  · rw [if_neg g9] at h
    obtain ⟨S10, eS10, h⟩ := wd_bx h
    refine bk_s4 tb_c_147_1 rfl rfl rfl g9 ?_
    rw [eS10]
    refine bk_b (q := (117, [(7, .int s0), (0, .ref 135), (1, .int l1), (2, .int l2), (3, .int l3), (4, .int l4), (5, .int l5), (6, .int l6)], [.ref 135, .ref 135])) tb_c_147_1 mx_147 2 rfl ?_
    refine bk_gi tb_c_147_1 rfl rfl (ci := 11) (k := 2) rfl rfl rfl ?_
    refine bk_b (q := (122, [(7, .int s0), (0, .ref 135), (1, .int l1), (2, .int l2), (3, .int l3), (4, .int l4), (5, .int l5), (6, .int l6)], [.int ((S10.1 135 2) + (1 : Int32)), .ref 135])) tb_c_147_1 mx_147 2 rfl ?_
    obtain ⟨S11, eS11, h⟩ := wd_bx h
    refine bk_pi tb_c_147_1 rfl rfl (ci := 11) (k := 2) rfl rfl rfl rfl ?_
    rw [eS11]
    refine bk_b (q := (34, [(6, .int (l6 + (1 : Int32))), (7, .int s0), (0, .ref 135), (1, .int l1), (2, .int l2), (3, .int l3), (4, .int l4), (5, .int l5)], [])) tb_c_147_1 mx_147 2 rfl ?_
    exact go_lv (ls_sc rfl rfl (ls_sc rfl rfl (ls_sc rfl rfl (ls_sc rfl rfl (ls_sc rfl rfl (ls_sc rfl rfl (ls_sc rfl rfl ls_nil))))))) (hk34 h)
noncomputable def fn_Mo_feed_34 : Nat → Int32 → Int32 → Int32 → Int32 → Int32 → Int32 → wd_S → Option (Int32 × wd_S)
  | 0, _, _, _, _, _, _, _ => none
  | n + 1, l1, l2, l3, l4, l5, l6, S =>
    (if l6 < (20 : Int32) then
      (if l6 < (4 : Int32) then
        fn_Mo_feed_87 (fn_Mo_feed_34 n) l1 l2 l3 l4 l5 l6 l1 S
      else
        (if l6 < (8 : Int32) then
          fn_Mo_feed_87 (fn_Mo_feed_34 n) l1 l2 l3 l4 l5 l6 l2 S
        else
          (if l6 < (12 : Int32) then
            fn_Mo_feed_87 (fn_Mo_feed_34 n) l1 l2 l3 l4 l5 l6 l3 S
          else
            (if l6 < (16 : Int32) then
              fn_Mo_feed_87 (fn_Mo_feed_34 n) l1 l2 l3 l4 l5 l6 l4 S
            else
              fn_Mo_feed_87 (fn_Mo_feed_34 n) l1 l2 l3 l4 l5 l6 l5 S))))
    else
      some (S.1 135 2, S))
set_option maxRecDepth 100000 in
theorem sn_Mo_feed_34 {L : Nat} {xs : Nat → Int32} : ∀ (n : Nat) {l1 : Int32} {l2 : Int32} {l3 : Int32} {l4 : Int32} {l5 : Int32} {l6 : Int32} {S : wd_S} {x : Int32} {S' : wd_S}, fn_Mo_feed_34 n l1 l2 l3 l4 l5 l6 S = some (x, S') → go_r tb_P L xs 0 147 34 [(0, .ref 135), (1, .int l1), (2, .int l2), (3, .int l3), (4, .int l4), (5, .int l5), (6, .int l6)] [] (wd_k S) (.inl (some (.int x)), wd_k S') := by
  intro n
  induction n with
  | zero => intro l1 l2 l3 l4 l5 l6 S x S'  h; cases h
  | succ n ih =>
    intro l1 l2 l3 l4 l5 l6 S x S'  h
    rw [fn_Mo_feed_34] at h
    refine bk_b (q := (38, [(0, .ref 135), (1, .int l1), (2, .int l2), (3, .int l3), (4, .int l4), (5, .int l5), (6, .int l6)], [.int (20 : Int32), .int l6])) tb_c_147_0 mx_147 2 rfl ?_
    by_cases g4 : l6 < (20 : Int32)
    · rw [if_pos g4] at h
      refine bk_jf tb_c_147_0 rfl (pc' := 41) rfl (t := 131) rfl (cm_ge_f g4) ?_
      refine bk_b (q := (44, [(0, .ref 135), (1, .int l1), (2, .int l2), (3, .int l3), (4, .int l4), (5, .int l5), (6, .int l6)], [.int (4 : Int32), .int l6])) tb_c_147_0 mx_147 2 rfl ?_
      by_cases g5 : l6 < (4 : Int32)
      · rw [if_pos g5] at h
        refine bk_jf tb_c_147_0 rfl (pc' := 47) rfl (t := 51) rfl (cm_ge_f g5) ?_
        refine bk_b (q := (87, [(0, .ref 135), (1, .int l1), (2, .int l2), (3, .int l3), (4, .int l4), (5, .int l5), (6, .int l6)], [.int l1])) tb_c_147_0 mx_147 2 rfl ?_
        exact go_lv (ls_sc rfl rfl (ls_sc rfl rfl (ls_sc rfl rfl (ls_sc rfl rfl (ls_sc rfl rfl (ls_sc rfl rfl (ls_sc rfl rfl ls_nil))))))) (sn_Mo_feed_87 ih h)
      · rw [if_neg g5] at h
        refine bk_jt tb_c_147_0 rfl (pc' := 51) rfl (cm_ge_t g5) ?_
        refine bk_b (q := (55, [(0, .ref 135), (1, .int l1), (2, .int l2), (3, .int l3), (4, .int l4), (5, .int l5), (6, .int l6)], [.int (8 : Int32), .int l6])) tb_c_147_0 mx_147 2 rfl ?_
        by_cases g6 : l6 < (8 : Int32)
        · rw [if_pos g6] at h
          refine bk_jf tb_c_147_0 rfl (pc' := 58) rfl (t := 62) rfl (cm_ge_f g6) ?_
          refine bk_b (q := (87, [(0, .ref 135), (1, .int l1), (2, .int l2), (3, .int l3), (4, .int l4), (5, .int l5), (6, .int l6)], [.int l2])) tb_c_147_0 mx_147 2 rfl ?_
          exact go_lv (ls_sc rfl rfl (ls_sc rfl rfl (ls_sc rfl rfl (ls_sc rfl rfl (ls_sc rfl rfl (ls_sc rfl rfl (ls_sc rfl rfl ls_nil))))))) (sn_Mo_feed_87 ih h)
        · rw [if_neg g6] at h
          refine bk_jt tb_c_147_0 rfl (pc' := 62) rfl (cm_ge_t g6) ?_
          refine bk_b (q := (66, [(0, .ref 135), (1, .int l1), (2, .int l2), (3, .int l3), (4, .int l4), (5, .int l5), (6, .int l6)], [.int (12 : Int32), .int l6])) tb_c_147_0 mx_147 2 rfl ?_
          by_cases g7 : l6 < (12 : Int32)
          · rw [if_pos g7] at h
            refine bk_jf tb_c_147_0 rfl (pc' := 69) rfl (t := 73) rfl (cm_ge_f g7) ?_
            refine bk_b (q := (87, [(0, .ref 135), (1, .int l1), (2, .int l2), (3, .int l3), (4, .int l4), (5, .int l5), (6, .int l6)], [.int l3])) tb_c_147_0 mx_147 2 rfl ?_
            exact go_lv (ls_sc rfl rfl (ls_sc rfl rfl (ls_sc rfl rfl (ls_sc rfl rfl (ls_sc rfl rfl (ls_sc rfl rfl (ls_sc rfl rfl ls_nil))))))) (sn_Mo_feed_87 ih h)
          · rw [if_neg g7] at h
            refine bk_jt tb_c_147_0 rfl (pc' := 73) rfl (cm_ge_t g7) ?_
            refine bk_b (q := (77, [(0, .ref 135), (1, .int l1), (2, .int l2), (3, .int l3), (4, .int l4), (5, .int l5), (6, .int l6)], [.int (16 : Int32), .int l6])) tb_c_147_0 mx_147 2 rfl ?_
            by_cases g8 : l6 < (16 : Int32)
            · rw [if_pos g8] at h
              refine bk_jf tb_c_147_0 rfl (pc' := 80) rfl (t := 85) rfl (cm_ge_f g8) ?_
              refine bk_b (q := (82, [(0, .ref 135), (1, .int l1), (2, .int l2), (3, .int l3), (4, .int l4), (5, .int l5), (6, .int l6)], [.int l4])) tb_c_147_0 mx_147 1 rfl ?_
              refine bk_b (q := (87, [(0, .ref 135), (1, .int l1), (2, .int l2), (3, .int l3), (4, .int l4), (5, .int l5), (6, .int l6)], [.int l4])) tb_c_147_1 mx_147 1 rfl ?_
              exact go_lv (ls_sc rfl rfl (ls_sc rfl rfl (ls_sc rfl rfl (ls_sc rfl rfl (ls_sc rfl rfl (ls_sc rfl rfl (ls_sc rfl rfl ls_nil))))))) (sn_Mo_feed_87 ih h)
            · rw [if_neg g8] at h
              refine bk_jt tb_c_147_0 rfl (pc' := 85) rfl (cm_ge_t g8) ?_
              refine bk_b (q := (87, [(0, .ref 135), (1, .int l1), (2, .int l2), (3, .int l3), (4, .int l4), (5, .int l5), (6, .int l6)], [.int l5])) tb_c_147_1 mx_147 1 rfl ?_
              exact go_lv (ls_sc rfl rfl (ls_sc rfl rfl (ls_sc rfl rfl (ls_sc rfl rfl (ls_sc rfl rfl (ls_sc rfl rfl (ls_sc rfl rfl ls_nil))))))) (sn_Mo_feed_87 ih h)
    · rw [if_neg g4] at h
      refine bk_jt tb_c_147_0 rfl (pc' := 131) rfl (cm_ge_t g4) ?_
      refine bk_b (q := (132, [(0, .ref 135), (1, .int l1), (2, .int l2), (3, .int l3), (4, .int l4), (5, .int l5), (6, .int l6)], [.ref 135])) tb_c_147_1 mx_147 1 rfl ?_
      refine bk_gi tb_c_147_1 rfl rfl (ci := 11) (k := 2) rfl rfl rfl ?_
      cases h
      exact bk_t tb_c_147_1 rfl rfl
noncomputable def fn_Mo_feed_19 (l1 : Int32) (l2 : Int32) (l3 : Int32) (l4 : Int32) (l5 : Int32) (s1 : Int32) (S : wd_S) : Option (Int32 × wd_S) :=
  (wd_b (wd_i S 135 0 s1) fun S2 =>
  (if 0 < (S2.1 135 0) then
    some ((0 : Int32), S2)
  else
    fn_Mo_feed_34 wd_F l1 l2 l3 l4 l5 (0 : Int32) S2))
set_option maxRecDepth 100000 in
theorem sn_Mo_feed_19 {L : Nat} {xs : Nat → Int32} {l1 : Int32} {l2 : Int32} {l3 : Int32} {l4 : Int32} {l5 : Int32} {s1 : Int32} {S : wd_S} {x : Int32} {S' : wd_S} (h : fn_Mo_feed_19 l1 l2 l3 l4 l5 s1 S = some (x, S')) : go_r tb_P L xs 0 147 19 [(0, .ref 135), (1, .int l1), (2, .int l2), (3, .int l3), (4, .int l4), (5, .int l5)] [.int s1, .ref 135] (wd_k S) (.inl (some (.int x)), wd_k S') := by
  unfold fn_Mo_feed_19 at h
  obtain ⟨S2, eS2, h⟩ := wd_bx h
  refine bk_pi tb_c_147_0 rfl rfl (ci := 11) (k := 0) rfl rfl rfl rfl ?_
  rw [eS2]
  refine bk_b (q := (23, [(0, .ref 135), (1, .int l1), (2, .int l2), (3, .int l3), (4, .int l4), (5, .int l5)], [.ref 135])) tb_c_147_0 mx_147 1 rfl ?_
  refine bk_gi tb_c_147_0 rfl rfl (ci := 11) (k := 0) rfl rfl rfl ?_
  by_cases g3 : 0 < (S2.1 135 0)
  · rw [if_pos g3] at h
    refine bk_zf tb_c_147_0 rfl (pc' := 29) rfl (t := 31) rfl (cm_le_f g3) ?_
    refine bk_b (q := (30, [(0, .ref 135), (1, .int l1), (2, .int l2), (3, .int l3), (4, .int l4), (5, .int l5)], [.int (0 : Int32)])) tb_c_147_0 mx_147 1 rfl ?_
    cases h
    exact bk_t tb_c_147_0 rfl rfl
  · rw [if_neg g3] at h
    refine bk_zt tb_c_147_0 rfl (pc' := 31) rfl (cm_le_t g3) ?_
    refine bk_b (q := (34, [(6, .int (0 : Int32)), (0, .ref 135), (1, .int l1), (2, .int l2), (3, .int l3), (4, .int l4), (5, .int l5)], [])) tb_c_147_0 mx_147 2 rfl ?_
    exact go_lv (ls_sc rfl rfl (ls_sc rfl rfl (ls_sc rfl rfl (ls_sc rfl rfl (ls_sc rfl rfl (ls_sc rfl rfl (ls_sc rfl rfl ls_nil))))))) (sn_Mo_feed_34 wd_F h)
/-- SpecialiserModel.feed(IIIII)I -/
noncomputable def fn_Mo_feed (p1 : Int32) (p2 : Int32) (p3 : Int32) (p4 : Int32) (p5 : Int32) (S : wd_S) : Option (Int32 × wd_S) :=
  (if (8000 : Int32) < ((S.1 135 2) + (20 : Int32)) then
    fn_Mo_feed_19 p1 p2 p3 p4 p5 (1 : Int32) S
  else
    fn_Mo_feed_19 p1 p2 p3 p4 p5 (0 : Int32) S)
set_option maxRecDepth 100000 in
theorem sn_Mo_feed {L : Nat} {xs : Nat → Int32} {p1 : Int32} {p2 : Int32} {p3 : Int32} {p4 : Int32} {p5 : Int32} {S : wd_S} {x : Int32} {S' : wd_S} (h : fn_Mo_feed p1 p2 p3 p4 p5 S = some (x, S')) : ev_r tb_P L xs (0 + 1) 147 [.ref 135, .int p1, .int p2, .int p3, .int p4, .int p5] (wd_k S) (.inl (some (.int x)), wd_k S') := by
  unfold fn_Mo_feed at h
  refine ev_of (Nat.le_of_ble_eq_true rfl) ?_
  show go_r tb_P L xs 0 147 0 [(0, .ref 135), (1, .int p1), (2, .int p2), (3, .int p3), (4, .int p4), (5, .int p5)] [] (wd_k S) (.inl (some (.int x)), wd_k S')
  refine bk_b (q := (2, [(0, .ref 135), (1, .int p1), (2, .int p2), (3, .int p3), (4, .int p4), (5, .int p5)], [.ref 135, .ref 135])) tb_c_147_0 mx_147 2 rfl ?_
  refine bk_gi tb_c_147_0 rfl rfl (ci := 11) (k := 2) rfl rfl rfl ?_
  refine bk_b (q := (11, [(0, .ref 135), (1, .int p1), (2, .int p2), (3, .int p3), (4, .int p4), (5, .int p5)], [.int (8000 : Int32), .int ((S.1 135 2) + (20 : Int32)), .ref 135])) tb_c_147_0 mx_147 3 rfl ?_
  by_cases g1 : (8000 : Int32) < ((S.1 135 2) + (20 : Int32))
  · rw [if_pos g1] at h
    refine bk_jf tb_c_147_0 rfl (pc' := 14) rfl (t := 18) rfl (cm_le_f g1) ?_
    refine bk_b (q := (19, [(0, .ref 135), (1, .int p1), (2, .int p2), (3, .int p3), (4, .int p4), (5, .int p5)], [.int (1 : Int32), .ref 135])) tb_c_147_0 mx_147 2 rfl ?_
    exact go_lv (ls_sc rfl rfl (ls_sc rfl rfl (ls_sc rfl rfl (ls_sc rfl rfl (ls_sc rfl rfl (ls_sc rfl rfl ls_nil)))))) (sn_Mo_feed_19 h)
  · rw [if_neg g1] at h
    refine bk_jt tb_c_147_0 rfl (pc' := 18) rfl (cm_le_t g1) ?_
    refine bk_b (q := (19, [(0, .ref 135), (1, .int p1), (2, .int p2), (3, .int p3), (4, .int p4), (5, .int p5)], [.int (0 : Int32), .ref 135])) tb_c_147_0 mx_147 1 rfl ?_
    exact go_lv (ls_sc rfl rfl (ls_sc rfl rfl (ls_sc rfl rfl (ls_sc rfl rfl (ls_sc rfl rfl (ls_sc rfl rfl ls_nil)))))) (sn_Mo_feed_19 h)
theorem mx_149 : mi_mx tb_P 149 = 6 := rfl
noncomputable def fn_Mo_within_18 (s0 : Int32) (S : wd_S) : Option (Int32 × wd_S) :=
  (if mi_fit .boolean (.int s0) = true then some (s0, S) else none)
set_option maxRecDepth 100000 in
theorem sn_Mo_within_18 {L : Nat} {xs : Nat → Int32} {s0 : Int32} {S : wd_S} {x : Int32} {S' : wd_S} (h : fn_Mo_within_18 s0 S = some (x, S')) : go_r tb_P L xs 0 149 18 [] [.int s0] (wd_k S) (.inl (some (.int x)), wd_k S') := by
  unfold fn_Mo_within_18 at h
  by_cases g2 : mi_fit .boolean (.int s0) = true
  · rw [if_pos g2] at h
    cases h
    exact bk_t tb_c_149_0 rfl (if_pos g2)
  · rw [if_neg g2] at h; cases h
noncomputable def fn_Mo_within_17 (S : wd_S) : Option (Int32 × wd_S) :=
  fn_Mo_within_18 (0 : Int32) S
set_option maxRecDepth 100000 in
theorem sn_Mo_within_17 {L : Nat} {xs : Nat → Int32} {S : wd_S} {x : Int32} {S' : wd_S} (h : fn_Mo_within_17  S = some (x, S')) : go_r tb_P L xs 0 149 17 [] [] (wd_k S) (.inl (some (.int x)), wd_k S') := by
  unfold fn_Mo_within_17 at h
  refine bk_b (q := (18, [], [.int (0 : Int32)])) tb_c_149_0 mx_149 1 rfl ?_
  exact go_lv ls_nil (sn_Mo_within_18 h)
/-- SpecialiserModel.within(JJJ)Z -/
noncomputable def fn_Mo_within (p0 : Int64) (p2 : Int64) (p4 : Int64) (S : wd_S) : Option (Int32 × wd_S) :=
  (if (lg_cmp p0 p2) < 0 then
    fn_Mo_within_17  S
  else
    (if 0 < (lg_cmp p0 p4) then
      fn_Mo_within_17  S
    else
      fn_Mo_within_18 (1 : Int32) S))
set_option maxRecDepth 100000 in
theorem sn_Mo_within {L : Nat} {xs : Nat → Int32} {p0 : Int64} {p2 : Int64} {p4 : Int64} {S : wd_S} {x : Int32} {S' : wd_S} (h : fn_Mo_within p0 p2 p4 S = some (x, S')) : ev_r tb_P L xs (0 + 1) 149 [.long p0, .long p2, .long p4] (wd_k S) (.inl (some (.int x)), wd_k S') := by
  unfold fn_Mo_within at h
  refine ev_of (Nat.le_of_ble_eq_true rfl) ?_
  show go_r tb_P L xs 0 149 0 [(0, .long p0), (2, .long p2), (4, .long p4)] [] (wd_k S) (.inl (some (.int x)), wd_k S')
  refine bk_b (q := (3, [(0, .long p0), (2, .long p2), (4, .long p4)], [.int (lg_cmp p0 p2)])) tb_c_149_0 mx_149 3 rfl ?_
  by_cases g1 : (lg_cmp p0 p2) < 0
  · rw [if_pos g1] at h
    refine bk_zt tb_c_149_0 rfl (pc' := 17) rfl (cm_lt_t g1) ?_
    exact go_lv ls_nil (sn_Mo_within_17 h)
  · rw [if_neg g1] at h
    refine bk_zf tb_c_149_0 rfl (pc' := 6) rfl (t := 17) rfl (cm_lt_f g1) ?_
    refine bk_b (q := (10, [(0, .long p0), (2, .long p2), (4, .long p4)], [.int (lg_cmp p0 p4)])) tb_c_149_0 mx_149 3 rfl ?_
    by_cases g3 : 0 < (lg_cmp p0 p4)
    · rw [if_pos g3] at h
      refine bk_zt tb_c_149_0 rfl (pc' := 17) rfl (cm_gt_t g3) ?_
      exact go_lv ls_nil (sn_Mo_within_17 h)
    · rw [if_neg g3] at h
      refine bk_zf tb_c_149_0 rfl (pc' := 13) rfl (t := 17) rfl (cm_gt_f g3) ?_
      refine bk_b (q := (18, [(0, .long p0), (2, .long p2), (4, .long p4)], [.int (1 : Int32)])) tb_c_149_0 mx_149 2 rfl ?_
      exact go_lv ls_nil (sn_Mo_within_18 h)
theorem mx_148 : mi_mx tb_P 148 = 3 := rfl
noncomputable def fn_Mo_cut_20 (l1 : Int32) (s1 : Int32) (S : wd_S) : Option (Int32 × wd_S) :=
  (wd_b (wd_i S 135 0 s1) fun S5 =>
  (if 0 < (S5.1 135 0) then
    some ((0 : Int32), S5)
  else
    (wd_b (wd_i S5 135 2 l1) fun S7 =>
    some (((S5.1 135 2) - l1), S7))))
set_option maxRecDepth 100000 in
theorem sn_Mo_cut_20 {L : Nat} {xs : Nat → Int32} {l1 : Int32} {s1 : Int32} {S : wd_S} {x : Int32} {S' : wd_S} (h : fn_Mo_cut_20 l1 s1 S = some (x, S')) : go_r tb_P L xs 1 148 20 [(0, .ref 135), (1, .int l1)] [.int s1, .ref 135] (wd_k S) (.inl (some (.int x)), wd_k S') := by
  unfold fn_Mo_cut_20 at h
  obtain ⟨S5, eS5, h⟩ := wd_bx h
  refine bk_pi tb_c_148_0 rfl rfl (ci := 11) (k := 0) rfl rfl rfl rfl ?_
  rw [eS5]
  refine bk_b (q := (24, [(0, .ref 135), (1, .int l1)], [.ref 135])) tb_c_148_0 mx_148 1 rfl ?_
  refine bk_gi tb_c_148_0 rfl rfl (ci := 11) (k := 0) rfl rfl rfl ?_
  by_cases g6 : 0 < (S5.1 135 0)
  · rw [if_pos g6] at h
    refine bk_zf tb_c_148_0 rfl (pc' := 30) rfl (t := 32) rfl (cm_le_f g6) ?_
    refine bk_b (q := (31, [(0, .ref 135), (1, .int l1)], [.int (0 : Int32)])) tb_c_148_0 mx_148 1 rfl ?_
    cases h
    exact bk_t tb_c_148_0 rfl rfl
  · rw [if_neg g6] at h
    refine bk_zt tb_c_148_0 rfl (pc' := 32) rfl (cm_le_t g6) ?_
    refine bk_b (q := (33, [(0, .ref 135), (1, .int l1)], [.ref 135])) tb_c_148_0 mx_148 1 rfl ?_
    refine bk_gi tb_c_148_0 rfl rfl (ci := 11) (k := 2) rfl rfl rfl ?_
    refine bk_b (q := (41, [(2, .int ((S5.1 135 2) - l1)), (0, .ref 135), (1, .int l1)], [.int l1, .ref 135])) tb_c_148_0 mx_148 5 rfl ?_
    obtain ⟨S7, eS7, h⟩ := wd_bx h
    refine bk_pi tb_c_148_0 rfl rfl (ci := 11) (k := 2) rfl rfl rfl rfl ?_
    rw [eS7]
    refine bk_b (q := (45, [(2, .int ((S5.1 135 2) - l1)), (0, .ref 135), (1, .int l1)], [.int ((S5.1 135 2) - l1)])) tb_c_148_0 mx_148 1 rfl ?_
    cases h
    exact bk_t tb_c_148_0 rfl rfl
/-- SpecialiserModel.cut(I)I -/
noncomputable def fn_Mo_cut (p1 : Int32) (S : wd_S) : Option (Int32 × wd_S) :=
  (wd_c (fn_Mo_within ((p1).toInt64) (0 : Int64) (((S.1 135 2)).toInt64) S) fun x2 S1 =>
  (if x2 = 0 then
    fn_Mo_cut_20 p1 (1 : Int32) S1
  else
    fn_Mo_cut_20 p1 (0 : Int32) S1))
set_option maxRecDepth 100000 in
theorem sn_Mo_cut {L : Nat} {xs : Nat → Int32} {p1 : Int32} {S : wd_S} {x : Int32} {S' : wd_S} (h : fn_Mo_cut p1 S = some (x, S')) : ev_r tb_P L xs (1 + 1) 148 [.ref 135, .int p1] (wd_k S) (.inl (some (.int x)), wd_k S') := by
  unfold fn_Mo_cut at h
  refine ev_of (Nat.le_of_ble_eq_true rfl) ?_
  show go_r tb_P L xs 1 148 0 [(0, .ref 135), (1, .int p1)] [] (wd_k S) (.inl (some (.int x)), wd_k S')
  refine bk_b (q := (5, [(0, .ref 135), (1, .int p1)], [.ref 135, .long (0 : Int64), .long ((p1).toInt64), .ref 135])) tb_c_148_0 mx_148 5 rfl ?_
  refine bk_gi tb_c_148_0 rfl rfl (ci := 11) (k := 2) rfl rfl rfl ?_
  refine bk_b (q := (9, [(0, .ref 135), (1, .int p1)], [.long (((S.1 135 2)).toInt64), .long (0 : Int64), .long ((p1).toInt64), .ref 135])) tb_c_148_0 mx_148 1 rfl ?_
  obtain ⟨x2, S1, c3, h⟩ := wd_cx h
  refine bk_ks tb_c_148_0 rfl rfl rfl (by decide) rfl rfl (ev_up (Nat.le_of_ble_eq_true rfl) (sn_Mo_within c3)) ?_
  by_cases g4 : x2 = 0
  · rw [if_pos g4] at h
    refine bk_zt tb_c_148_0 rfl (pc' := 19) rfl (cm_eq_t g4) ?_
    refine bk_b (q := (20, [(0, .ref 135), (1, .int p1)], [.int (1 : Int32), .ref 135])) tb_c_148_0 mx_148 1 rfl ?_
    exact go_lv (ls_sc rfl rfl (ls_sc rfl rfl ls_nil)) (sn_Mo_cut_20 h)
  · rw [if_neg g4] at h
    refine bk_zf tb_c_148_0 rfl (pc' := 15) rfl (t := 19) rfl (cm_eq_f g4) ?_
    refine bk_b (q := (20, [(0, .ref 135), (1, .int p1)], [.int (0 : Int32), .ref 135])) tb_c_148_0 mx_148 2 rfl ?_
    exact go_lv (ls_sc rfl rfl (ls_sc rfl rfl ls_nil)) (sn_Mo_cut_20 h)
