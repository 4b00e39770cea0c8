/-! Methods as functions: printed by wip/whole/gen_fn.py. -/
theorem mx_109 : mi_mx tb_P 109 = 1 := rfl
/-- Specialiser$Runner.result()I -/
noncomputable def fn_Runner_result (S : wd_S) : Option (Int32 × wd_S) :=
  some (S.1 104 11, S)
set_option maxRecDepth 100000 in
theorem sn_Runner_result {L : Nat} {xs : Nat → Int32} {S : wd_S} {x : Int32} {S' : wd_S} (h : fn_Runner_result  S = some (x, S')) : ev_r tb_P L xs (0 + 1) 109 [.ref 104] (wd_k S) (.inl (some (.int x)), wd_k S') := by
  unfold fn_Runner_result at h
  refine ev_of (Nat.le_of_ble_eq_true rfl) ?_
  show go_r tb_P L xs 0 109 0 [(0, .ref 104)] [] (wd_k S) (.inl (some (.int x)), wd_k S')
  refine bk_b (q := (1, [(0, .ref 104)], [.ref 104])) tb_c_109_0 mx_109 1 rfl ?_
  refine bk_gi tb_c_109_0 rfl rfl (ci := 6) (k := 11) rfl rfl rfl ?_
  cases h
  exact bk_t tb_c_109_0 rfl rfl
theorem mx_110 : mi_mx tb_P 110 = 3 := rfl
/-- Specialiser$Trees.turnIntoNumber(II)V -/
noncomputable def fn_Trees_turnIntoNumber (p0 : Nat) (p1 : Int32) (p2 : Int32) (S : wd_S) : Option wd_S :=
  (wd_d (fn_Row_put (p0 + 1) p1 (1 : Int32) S) fun S1 =>
  (wd_d (fn_Row_put (p0 + 3) p1 p2 S1) fun S4 =>
  (wd_d (fn_Row_put (p0 + 5) p1 (0 : Int32) S4) fun S7 =>
  (wd_d (fn_Row_put (p0 + 9) p1 (1 : Int32) S7) fun S10 =>
  (wd_d (fn_Row_put (p0 + 11) p1 (0 : Int32) S10) fun S13 =>
  some S13)))))
set_option maxRecDepth 100000 in
theorem sn_Trees_turnIntoNumber {L : Nat} {xs : Nat → Int32} {p0 : Nat} {p1 : Int32} {p2 : Int32} {S : wd_S} {S' : wd_S} (hp0 : tp_t p0 = (0, 8)) (h : fn_Trees_turnIntoNumber p0 p1 p2 S = some S') : ev_r tb_P L xs (1 + 1) 110 [.ref p0, .int p1, .int p2] (wd_k S) (.inl none, wd_k S') := by
  unfold fn_Trees_turnIntoNumber at h
  refine ev_of (Nat.le_of_ble_eq_true rfl) ?_
  show go_r tb_P L xs 1 110 0 [(0, .ref p0), (1, .int p1), (2, .int p2)] [] (wd_k S) (.inl none, wd_k S')
  refine bk_b (q := (1, [(0, .ref p0), (1, .int p1), (2, .int p2)], [.ref p0])) tb_c_110_0 mx_110 1 rfl ?_
  refine bk_go tb_c_110_0 rfl rfl (ci := 8) (k := 0) rfl hp0 rfl ?_
  refine bk_b (q := (6, [(0, .ref p0), (1, .int p1), (2, .int p2)], [.int (1 : Int32), .int p1, .ref (p0 + 1)])) tb_c_110_0 mx_110 2 rfl ?_
  obtain ⟨S1, c3, h⟩ := wd_dx h
  refine bk_kv tb_c_110_0 rfl rfl rfl rfl rfl (ci := 5) (tp_8_0 hp0) rfl (ev_up (Nat.le_of_ble_eq_true rfl) (sn_Row_put (tp_8_0 hp0) c3)) ?_
  refine bk_b (q := (10, [(0, .ref p0), (1, .int p1), (2, .int p2)], [.ref p0])) tb_c_110_0 mx_110 1 rfl ?_
  refine bk_go tb_c_110_0 rfl rfl (ci := 8) (k := 1) rfl hp0 rfl ?_
  refine bk_b (q := (15, [(0, .ref p0), (1, .int p1), (2, .int p2)], [.int p2, .int p1, .ref (p0 + 3)])) tb_c_110_0 mx_110 2 rfl ?_
  obtain ⟨S4, c6, h⟩ := wd_dx h
  refine bk_kv tb_c_110_0 rfl rfl rfl rfl rfl (ci := 5) (tp_8_1 hp0) rfl (ev_up (Nat.le_of_ble_eq_true rfl) (sn_Row_put (tp_8_1 hp0) c6)) ?_
  refine bk_b (q := (19, [(0, .ref p0), (1, .int p1), (2, .int p2)], [.ref p0])) tb_c_110_0 mx_110 1 rfl ?_
  refine bk_go tb_c_110_0 rfl rfl (ci := 8) (k := 2) rfl hp0 rfl ?_
  refine bk_b (q := (24, [(0, .ref p0), (1, .int p1), (2, .int p2)], [.int (0 : Int32), .int p1, .ref (p0 + 5)])) tb_c_110_0 mx_110 2 rfl ?_
  obtain ⟨S7, c9, h⟩ := wd_dx h
  refine bk_kv tb_c_110_0 rfl rfl rfl rfl rfl (ci := 5) (tp_8_2 hp0) rfl (ev_up (Nat.le_of_ble_eq_true rfl) (sn_Row_put (tp_8_2 hp0) c9)) ?_
  refine bk_b (q := (28, [(0, .ref p0), (1, .int p1), (2, .int p2)], [.ref p0])) tb_c_110_0 mx_110 1 rfl ?_
  refine bk_go tb_c_110_0 rfl rfl (ci := 8) (k := 4) rfl hp0 rfl ?_
  refine bk_b (q := (33, [(0, .ref p0), (1, .int p1), (2, .int p2)], [.int (1 : Int32), .int p1, .ref (p0 + 9)])) tb_c_110_0 mx_110 2 rfl ?_
  obtain ⟨S10, c12, h⟩ := wd_dx h
  refine bk_kv tb_c_110_0 rfl rfl rfl rfl rfl (ci := 5) (tp_8_4 hp0) rfl (ev_up (Nat.le_of_ble_eq_true rfl) (sn_Row_put (tp_8_4 hp0) c12)) ?_
  refine bk_b (q := (37, [(0, .ref p0), (1, .int p1), (2, .int p2)], [.ref p0])) tb_c_110_0 mx_110 1 rfl ?_
  refine bk_go tb_c_110_0 rfl rfl (ci := 8) (k := 5) rfl hp0 rfl ?_
  refine bk_b (q := (42, [(0, .ref p0), (1, .int p1), (2, .int p2)], [.int (0 : Int32), .int p1, .ref (p0 + 11)])) tb_c_110_0 mx_110 2 rfl ?_
  obtain ⟨S13, c15, h⟩ := wd_dx h
  refine bk_kv tb_c_110_0 rfl rfl rfl rfl rfl (ci := 5) (tp_8_5 hp0) rfl (ev_up (Nat.le_of_ble_eq_true rfl) (sn_Row_put (tp_8_5 hp0) c15)) ?_
  cases h
  exact bk_t tb_c_110_0 rfl rfl
theorem mx_113 : mi_mx tb_P 113 = 5 := rfl
noncomputable def fn_Versions_agrees_42 (kk3 : Nat → Int32 → Int32 → Nat → Int32 → wd_S → Option (Int32 × wd_S)) (l0 : Nat) (l1 : Int32) (l2 : Int32) (l3 : Nat) (l4 : Int32) (S : wd_S) : Option (Int32 × wd_S) :=
  kk3 l0 l1 l2 l3 (l4 + (1 : Int32)) S
set_option maxRecDepth 100000 in
theorem sn_Versions_agrees_42 {L : Nat} {xs : Nat → Int32} {kk3 : Nat → Int32 → Int32 → Nat → Int32 → wd_S → Option (Int32 × wd_S)} (hk3 : ∀ {l0 : Nat} {l1 : Int32} {l2 : Int32} {l3 : Nat} {l4 : Int32} {S : wd_S} {x : Int32} {S' : wd_S}, tp_t l0 = (0, 9) → tp_t l3 = (0, 5) → kk3 l0 l1 l2 l3 l4 S = some (x, S') → go_r tb_P L xs 1 113 3 [(0, .ref l0), (1, .int l1), (2, .int l2), (3, .ref l3), (4, .int l4)] [] (wd_k S) (.inl (some (.int x)), wd_k S')) {l0 : Nat} {l1 : Int32} {l2 : Int32} {l3 : Nat} {l4 : Int32} {S : wd_S} {x : Int32} {S' : wd_S} (hl0 : tp_t l0 = (0, 9)) (hl3 : tp_t l3 = (0, 5)) (h : fn_Versions_agrees_42 kk3 l0 l1 l2 l3 l4 S = some (x, S')) : go_r tb_P L xs 1 113 42 [(0, .ref l0), (1, .int l1), (2, .int l2), (3, .ref l3), (4, .int l4)] [] (wd_k S) (.inl (some (.int x)), wd_k S') := by
  unfold fn_Versions_agrees_42 at h
  refine bk_b (q := (3, [(4, .int (l4 + (1 : Int32))), (0, .ref l0), (1, .int l1), (2, .int l2), (3, .ref l3)], [])) tb_c_113_0 mx_113 2 rfl ?_
  exact go_lv (ls_sc rfl rfl (ls_sc rfl rfl (ls_sc rfl rfl (ls_sc rfl rfl (ls_sc rfl rfl ls_nil))))) (hk3 hl0 hl3 h)
noncomputable def fn_Versions_agrees_3 : Nat → Nat → Int32 → Int32 → Nat → Int32 → wd_S → Option (Int32 × wd_S)
  | 0, _, _, _, _, _, _ => none
  | n + 1, l0, l1, l2, l3, l4, S =>
    (if l4 < (4 : Int32) then
      (wd_c (fn_Versions_isIn l2 l4 S) fun x3 S2 =>
      (if x3 = 0 then
        fn_Versions_agrees_42 (fn_Versions_agrees_3 n) l0 l1 l2 l3 l4 S2
      else
        (wd_c (fn_Row_at (l0 + 23) ((l1 * (4 : Int32)) + l4) S2) fun x7 S6 =>
        (wd_c (fn_Row_at l3 l4 S6) fun x10 S9 =>
        (if x7 = x10 then
          fn_Versions_agrees_42 (fn_Versions_agrees_3 n) l0 l1 l2 l3 l4 S9
        else
          some ((0 : Int32), S9))))))
    else
      some ((1 : Int32), S))
set_option maxRecDepth 100000 in
theorem sn_Versions_agrees_3 {L : Nat} {xs : Nat → Int32} : ∀ (n : Nat) {l0 : Nat} {l1 : Int32} {l2 : Int32} {l3 : Nat} {l4 : Int32} {S : wd_S} {x : Int32} {S' : wd_S}, tp_t l0 = (0, 9) → tp_t l3 = (0, 5) → fn_Versions_agrees_3 n l0 l1 l2 l3 l4 S = some (x, S') → go_r tb_P L xs 1 113 3 [(0, .ref l0), (1, .int l1), (2, .int l2), (3, .ref l3), (4, .int l4)] [] (wd_k S) (.inl (some (.int x)), wd_k S') := by
  intro n
  induction n with
  | zero => intro l0 l1 l2 l3 l4 S x S' hl0 hl3 h; cases h
  | succ n ih =>
    intro l0 l1 l2 l3 l4 S x S' hl0 hl3 h
    rw [fn_Versions_agrees_3] at h
    refine bk_b (q := (6, [(0, .ref l0), (1, .int l1), (2, .int l2), (3, .ref l3), (4, .int l4)], [.int (4 : Int32), .int l4])) tb_c_113_0 mx_113 2 rfl ?_
    by_cases g1 : l4 < (4 : Int32)
    · rw [if_pos g1] at h
      refine bk_jf tb_c_113_0 rfl (pc' := 9) rfl (t := 48) rfl (cm_ge_f g1) ?_
      refine bk_b (q := (12, [(0, .ref l0), (1, .int l1), (2, .int l2), (3, .ref l3), (4, .int l4)], [.int l4, .int l2])) tb_c_113_0 mx_113 2 rfl ?_
      obtain ⟨x3, S2, c4, h⟩ := wd_cx h
      refine bk_ks tb_c_113_0 rfl rfl rfl (by decide) rfl rfl (ev_up (Nat.le_of_ble_eq_true rfl) (sn_Versions_isIn c4)) ?_
      by_cases g5 : x3 = 0
      · rw [if_pos g5] at h
        refine bk_zt tb_c_113_0 rfl (pc' := 42) rfl (cm_eq_t g5) ?_
        exact go_lv (ls_sc rfl rfl (ls_sc rfl rfl (ls_sc rfl rfl (ls_sc rfl rfl (ls_sc rfl rfl ls_nil))))) (sn_Versions_agrees_42 ih hl0 hl3 h)
      · rw [if_neg g5] at h
        refine bk_zf tb_c_113_0 rfl (pc' := 18) rfl (t := 42) rfl (cm_eq_f g5) ?_
        refine bk_b (q := (19, [(0, .ref l0), (1, .int l1), (2, .int l2), (3, .ref l3), (4, .int l4)], [.ref l0])) tb_c_113_0 mx_113 1 rfl ?_
        refine bk_go tb_c_113_0 rfl rfl (ci := 9) (k := 3) rfl hl0 rfl ?_
        refine bk_b (q := (28, [(0, .ref l0), (1, .int l1), (2, .int l2), (3, .ref l3), (4, .int l4)], [.int ((l1 * (4 : Int32)) + l4), .ref (l0 + 23)])) tb_c_113_0 mx_113 5 rfl ?_
        obtain ⟨x7, S6, c8, h⟩ := wd_cx h
        refine bk_kv tb_c_113_0 rfl rfl rfl rfl rfl (ci := 5) (tp_9_3 hl0) rfl (ev_up (Nat.le_of_ble_eq_true rfl) (sn_Row_at (tp_9_3 hl0) c8)) ?_
        refine bk_b (q := (34, [(0, .ref l0), (1, .int l1), (2, .int l2), (3, .ref l3), (4, .int l4)], [.int l4, .ref l3, .int x7])) tb_c_113_0 mx_113 2 rfl ?_
        obtain ⟨x10, S9, c11, h⟩ := wd_cx h
        refine bk_kv tb_c_113_0 rfl rfl rfl rfl rfl (ci := 5) hl3 rfl (ev_up (Nat.le_of_ble_eq_true rfl) (sn_Row_at hl3 c11)) ?_
        by_cases g12 : x7 = x10
        · rw [if_pos g12] at h
          refine bk_jt tb_c_113_0 rfl (pc' := 42) rfl (cm_eq_t g12) ?_
          exact go_lv (ls_sc rfl rfl (ls_sc rfl rfl (ls_sc rfl rfl (ls_sc rfl rfl (ls_sc rfl rfl ls_nil))))) (sn_Versions_agrees_42 ih hl0 hl3 h)
        · rw [if_neg g12] at h
          refine bk_jf tb_c_113_0 rfl (pc' := 40) rfl (t := 42) rfl (cm_eq_f g12) ?_
          refine bk_b (q := (41, [(0, .ref l0), (1, .int l1), (2, .int l2), (3, .ref l3), (4, .int l4)], [.int (0 : Int32)])) tb_c_113_0 mx_113 1 rfl ?_
          cases h
          exact bk_t tb_c_113_0 rfl rfl
    · rw [if_neg g1] at h
      refine bk_jt tb_c_113_0 rfl (pc' := 48) rfl (cm_ge_t g1) ?_
      refine bk_b (q := (49, [(0, .ref l0), (1, .int l1), (2, .int l2), (3, .ref l3), (4, .int l4)], [.int (1 : Int32)])) tb_c_113_0 mx_113 1 rfl ?_
      cases h
      exact bk_t tb_c_113_0 rfl rfl
/-- Specialiser$Versions.agrees(IILSpecialiser$Row;)Z -/
noncomputable def fn_Versions_agrees (p0 : Nat) (p1 : Int32) (p2 : Int32) (p3 : Nat) (S : wd_S) : Option (Int32 × wd_S) :=
  fn_Versions_agrees_3 wd_F p0 p1 p2 p3 (0 : Int32) S
set_option maxRecDepth 100000 in
theorem sn_Versions_agrees {L : Nat} {xs : Nat → Int32} {p0 : Nat} {p1 : Int32} {p2 : Int32} {p3 : Nat} {S : wd_S} {x : Int32} {S' : wd_S} (hp0 : tp_t p0 = (0, 9)) (hp3 : tp_t p3 = (0, 5)) (h : fn_Versions_agrees p0 p1 p2 p3 S = some (x, S')) : ev_r tb_P L xs (1 + 1) 113 [.ref p0, .int p1, .int p2, .ref p3] (wd_k S) (.inl (some (.int x)), wd_k S') := by
  unfold fn_Versions_agrees at h
  refine ev_of (Nat.le_of_ble_eq_true rfl) ?_
  show go_r tb_P L xs 1 113 0 [(0, .ref p0), (1, .int p1), (2, .int p2), (3, .ref p3)] [] (wd_k S) (.inl (some (.int x)), wd_k S')
  refine bk_b (q := (3, [(4, .int (0 : Int32)), (0, .ref p0), (1, .int p1), (2, .int p2), (3, .ref p3)], [])) tb_c_113_0 mx_113 2 rfl ?_
  exact go_lv (ls_sc rfl rfl (ls_sc rfl rfl (ls_sc rfl rfl (ls_sc rfl rfl (ls_sc rfl rfl ls_nil))))) (sn_Versions_agrees_3 wd_F hp0 hp3 h)
theorem mx_112 : mi_mx tb_P 112 = 5 := rfl
noncomputable def fn_Versions_find_46 (kk3 : Nat → Int32 → Int32 → Nat → Int32 → wd_S → Option (Int32 × wd_S)) (l0 : Nat) (l1 : Int32) (l2 : Int32) (l3 : Nat) (l4 : Int32) (S : wd_S) : Option (Int32 × wd_S) :=
  kk3 l0 l1 l2 l3 (l4 + (1 : Int32)) S
set_option maxRecDepth 100000 in
theorem sn_Versions_find_46 {L : Nat} {xs : Nat → Int32} {kk3 : Nat → Int32 → Int32 → Nat → Int32 → wd_S → Option (Int32 × wd_S)} (hk3 : ∀ {l0 : Nat} {l1 : Int32} {l2 : Int32} {l3 : Nat} {l4 : Int32} {S : wd_S} {x : Int32} {S' : wd_S}, tp_t l0 = (0, 9) → tp_t l3 = (0, 5) → kk3 l0 l1 l2 l3 l4 S = some (x, S') → go_r tb_P L xs 2 112 3 [(0, .ref l0), (1, .int l1), (2, .int l2), (3, .ref l3), (4, .int l4)] [] (wd_k S) (.inl (some (.int x)), wd_k S')) {l0 : Nat} {l1 : Int32} {l2 : Int32} {l3 : Nat} {l4 : Int32} {S : wd_S} {x : Int32} {S' : wd_S} (hl0 : tp_t l0 = (0, 9)) (hl3 : tp_t l3 = (0, 5)) (h : fn_Versions_find_46 kk3 l0 l1 l2 l3 l4 S = some (x, S')) : go_r tb_P L xs 2 112 46 [(0, .ref l0), (1, .int l1), (2, .int l2), (3, .ref l3), (4, .int l4)] [] (wd_k S) (.inl (some (.int x)), wd_k S') := by
  unfold fn_Versions_find_46 at h
  refine bk_b (q := (3, [(4, .int (l4 + (1 : Int32))), (0, .ref l0), (1, .int l1), (2, .int l2), (3, .ref l3)], [])) tb_c_112_0 mx_112 2 rfl ?_
  exact go_lv (ls_sc rfl rfl (ls_sc rfl rfl (ls_sc rfl rfl (ls_sc rfl rfl (ls_sc rfl rfl ls_nil))))) (hk3 hl0 hl3 h)
noncomputable def fn_Versions_find_3 : Nat → Nat → Int32 → Int32 → Nat → Int32 → wd_S → Option (Int32 × wd_S)
  | 0, _, _, _, _, _, _ => none
  | n + 1, l0, l1, l2, l3, l4, S =>
    (wd_c (fn_Versions_count l0 S) fun x2 S1 =>
    (if l4 < x2 then
      (wd_c (fn_Versions_functionOf l0 l4 S1) fun x6 S5 =>
      (if x6 = l1 then
        (wd_c (fn_Versions_mask l0 l4 S5) fun x10 S9 =>
        (if x10 = l2 then
          (wd_c (fn_Versions_agrees l0 l4 l2 l3 S9) fun x14 S13 =>
          (if x14 = 0 then
            fn_Versions_find_46 (fn_Versions_find_3 n) l0 l1 l2 l3 l4 S13
          else
            some (l4, S13)))
        else
          fn_Versions_find_46 (fn_Versions_find_3 n) l0 l1 l2 l3 l4 S9))
      else
        fn_Versions_find_46 (fn_Versions_find_3 n) l0 l1 l2 l3 l4 S5))
    else
      some ((-1 : Int32), S1)))
set_option maxRecDepth 100000 in
theorem sn_Versions_find_3 {L : Nat} {xs : Nat → Int32} : ∀ (n : Nat) {l0 : Nat} {l1 : Int32} {l2 : Int32} {l3 : Nat} {l4 : Int32} {S : wd_S} {x : Int32} {S' : wd_S}, tp_t l0 = (0, 9) → tp_t l3 = (0, 5) → fn_Versions_find_3 n l0 l1 l2 l3 l4 S = some (x, S') → go_r tb_P L xs 2 112 3 [(0, .ref l0), (1, .int l1), (2, .int l2), (3, .ref l3), (4, .int l4)] [] (wd_k S) (.inl (some (.int x)), wd_k S') := by
  intro n
  induction n with
  | zero => intro l0 l1 l2 l3 l4 S x S' hl0 hl3 h; cases h
  | succ n ih =>
    intro l0 l1 l2 l3 l4 S x S' hl0 hl3 h
    rw [fn_Versions_find_3] at h
    refine bk_b (q := (6, [(0, .ref l0), (1, .int l1), (2, .int l2), (3, .ref l3), (4, .int l4)], [.ref l0, .int l4])) tb_c_112_0 mx_112 2 rfl ?_
    obtain ⟨x2, S1, c3, h⟩ := wd_cx h
    refine bk_kv tb_c_112_0 rfl rfl rfl rfl rfl (ci := 9) hl0 rfl (ev_up (Nat.le_of_ble_eq_true rfl) (sn_Versions_count hl0 c3)) ?_
    by_cases g4 : l4 < x2
    · rw [if_pos g4] at h
      refine bk_jf tb_c_112_0 rfl (pc' := 12) rfl (t := 52) rfl (cm_ge_f g4) ?_
      refine bk_b (q := (15, [(0, .ref l0), (1, .int l1), (2, .int l2), (3, .ref l3), (4, .int l4)], [.int l4, .ref l0])) tb_c_112_0 mx_112 2 rfl ?_
      obtain ⟨x6, S5, c7, h⟩ := wd_cx h
      refine bk_kv tb_c_112_0 rfl rfl rfl rfl rfl (ci := 9) hl0 rfl (ev_up (Nat.le_of_ble_eq_true rfl) (sn_Versions_functionOf hl0 c7)) ?_
      refine bk_b (q := (19, [(0, .ref l0), (1, .int l1), (2, .int l2), (3, .ref l3), (4, .int l4)], [.int l1, .int x6])) tb_c_112_0 mx_112 1 rfl ?_
      by_cases g8 : x6 = l1
      · rw [if_pos g8] at h
        refine bk_jf tb_c_112_0 rfl (pc' := 22) rfl (t := 46) rfl (cm_ne_f g8) ?_
        refine bk_b (q := (25, [(0, .ref l0), (1, .int l1), (2, .int l2), (3, .ref l3), (4, .int l4)], [.int l4, .ref l0])) tb_c_112_0 mx_112 2 rfl ?_
        obtain ⟨x10, S9, c11, h⟩ := wd_cx h
        refine bk_kv tb_c_112_0 rfl rfl rfl rfl rfl (ci := 9) hl0 rfl (ev_up (Nat.le_of_ble_eq_true rfl) (sn_Versions_mask hl0 c11)) ?_
        refine bk_b (q := (29, [(0, .ref l0), (1, .int l1), (2, .int l2), (3, .ref l3), (4, .int l4)], [.int l2, .int x10])) tb_c_112_0 mx_112 1 rfl ?_
        by_cases g12 : x10 = l2
        · rw [if_pos g12] at h
          refine bk_jf tb_c_112_0 rfl (pc' := 32) rfl (t := 46) rfl (cm_ne_f g12) ?_
          refine bk_b (q := (37, [(0, .ref l0), (1, .int l1), (2, .int l2), (3, .ref l3), (4, .int l4)], [.ref l3, .int l2, .int l4, .ref l0])) tb_c_112_0 mx_112 4 rfl ?_
          obtain ⟨x14, S13, c15, h⟩ := wd_cx h
          refine bk_kv tb_c_112_0 rfl rfl rfl rfl rfl (ci := 9) hl0 rfl (ev_up (Nat.le_of_ble_eq_true rfl) (sn_Versions_agrees hl0 hl3 c15)) ?_
          by_cases g16 : x14 = 0
          · rw [if_pos g16] at h
            refine bk_zt tb_c_112_0 rfl (pc' := 46) rfl (cm_eq_t g16) ?_
            exact go_lv (ls_sc rfl rfl (ls_sc rfl rfl (ls_sc rfl rfl (ls_sc rfl rfl (ls_sc rfl rfl ls_nil))))) (sn_Versions_find_46 ih hl0 hl3 h)
          · rw [if_neg g16] at h
            refine bk_zf tb_c_112_0 rfl (pc' := 43) rfl (t := 46) rfl (cm_eq_f g16) ?_
            refine bk_b (q := (45, [(0, .ref l0), (1, .int l1), (2, .int l2), (3, .ref l3), (4, .int l4)], [.int l4])) tb_c_112_0 mx_112 1 rfl ?_
            cases h
            exact bk_t tb_c_112_0 rfl rfl
        · rw [if_neg g12] at h
          refine bk_jt tb_c_112_0 rfl (pc' := 46) rfl (cm_ne_t g12) ?_
          exact go_lv (ls_sc rfl rfl (ls_sc rfl rfl (ls_sc rfl rfl (ls_sc rfl rfl (ls_sc rfl rfl ls_nil))))) (sn_Versions_find_46 ih hl0 hl3 h)
      · rw [if_neg g8] at h
        refine bk_jt tb_c_112_0 rfl (pc' := 46) rfl (cm_ne_t g8) ?_
        exact go_lv (ls_sc rfl rfl (ls_sc rfl rfl (ls_sc rfl rfl (ls_sc rfl rfl (ls_sc rfl rfl ls_nil))))) (sn_Versions_find_46 ih hl0 hl3 h)
    · rw [if_neg g4] at h
      refine bk_jt tb_c_112_0 rfl (pc' := 52) rfl (cm_ge_t g4) ?_
      refine bk_b (q := (53, [(0, .ref l0), (1, .int l1), (2, .int l2), (3, .ref l3), (4, .int l4)], [.int (-1 : Int32)])) tb_c_112_0 mx_112 1 rfl ?_
      cases h
      exact bk_t tb_c_112_0 rfl rfl
/-- Specialiser$Versions.find(IILSpecialiser$Row;)I -/
noncomputable def fn_Versions_find (p0 : Nat) (p1 : Int32) (p2 : Int32) (p3 : Nat) (S : wd_S) : Option (Int32 × wd_S) :=
  fn_Versions_find_3 wd_F p0 p1 p2 p3 (0 : Int32) S
set_option maxRecDepth 100000 in
theorem sn_Versions_find {L : Nat} {xs : Nat → Int32} {p0 : Nat} {p1 : Int32} {p2 : Int32} {p3 : Nat} {S : wd_S} {x : Int32} {S' : wd_S} (hp0 : tp_t p0 = (0, 9)) (hp3 : tp_t p3 = (0, 5)) (h : fn_Versions_find p0 p1 p2 p3 S = some (x, S')) : ev_r tb_P L xs (2 + 1) 112 [.ref p0, .int p1, .int p2, .ref p3] (wd_k S) (.inl (some (.int x)), wd_k S') := by
  unfold fn_Versions_find at h
  refine ev_of (Nat.le_of_ble_eq_true rfl) ?_
  show go_r tb_P L xs 2 112 0 [(0, .ref p0), (1, .int p1), (2, .int p2), (3, .ref p3)] [] (wd_k S) (.inl (some (.int x)), wd_k S')
  refine bk_b (q := (3, [(4, .int (0 : Int32)), (0, .ref p0), (1, .int p1), (2, .int p2), (3, .ref p3)], [])) tb_c_112_0 mx_112 2 rfl ?_
  exact go_lv (ls_sc rfl rfl (ls_sc rfl rfl (ls_sc rfl rfl (ls_sc rfl rfl (ls_sc rfl rfl ls_nil))))) (sn_Versions_find_3 wd_F hp0 hp3 h)
theorem mx_114 : mi_mx tb_P 114 = 5 := rfl
noncomputable def fn_Trees_dropNumbers_69 (kk4 : Nat → Int32 → Int32 → Int32 → wd_S → Option wd_S) (l0 : Nat) (l1 : Int32) (l2 : Int32) (l3 : Int32) (S : wd_S) : Option wd_S :=
  kk4 l0 l1 l2 (l3 + (1 : Int32)) S
set_option maxRecDepth 100000 in
theorem sn_Trees_dropNumbers_69 {L : Nat} {xs : Nat → Int32} {kk4 : Nat → Int32 → Int32 → Int32 → wd_S → Option wd_S} (hk4 : ∀ {l0 : Nat} {l1 : Int32} {l2 : Int32} {l3 : Int32} {S : wd_S} {S' : wd_S}, tp_t l0 = (0, 8) → kk4 l0 l1 l2 l3 S = some S' → go_r tb_P L xs 2 114 4 [(0, .ref l0), (1, .int l1), (2, .int l2), (3, .int l3)] [] (wd_k S) (.inl none, wd_k S')) {l0 : Nat} {l1 : Int32} {l2 : Int32} {l3 : Int32} {S : wd_S} {S' : wd_S} (hl0 : tp_t l0 = (0, 8)) (h : fn_Trees_dropNumbers_69 kk4 l0 l1 l2 l3 S = some S') : go_r tb_P L xs 2 114 69 [(0, .ref l0), (1, .int l1), (2, .int l2), (3, .int l3)] [] (wd_k S) (.inl none, wd_k S') := by
  unfold fn_Trees_dropNumbers_69 at h
  refine bk_b (q := (4, [(3, .int (l3 + (1 : Int32))), (0, .ref l0), (1, .int l1), (2, .int l2)], [])) tb_c_114_1 mx_114 2 rfl ?_
  exact go_lv (ls_sc rfl rfl (ls_sc rfl rfl (ls_sc rfl rfl (ls_sc rfl rfl ls_nil)))) (hk4 hl0 h)
noncomputable def fn_Trees_dropNumbers_4 : Nat → Nat → Int32 → Int32 → Int32 → wd_S → Option wd_S
  | 0, _, _, _, _, _ => none
  | n + 1, l0, l1, l2, l3, S =>
    (wd_c (fn_Trees_parts l0 l1 S) fun x2 S1 =>
    (if l3 < x2 then
      (wd_c (fn_Trees_part l0 l1 l3 S1) fun x9 S8 =>
      (wd_c (fn_Trees_kind l0 x9 S8) fun x12 S11 =>
      (if x12 = (1 : Int32) then
        (wd_c (fn_Row_at (l0 + 9) l1 S11) fun x19 S18 =>
        (wd_d (fn_Row_put (l0 + 9) l1 (x19 - (1 : Int32)) S18) fun S21 =>
        fn_Trees_dropNumbers_69 (fn_Trees_dropNumbers_4 n) l0 l1 l2 l3 S21))
      else
        (wd_d (fn_Row_put (l0 + 7) ((l1 * (4 : Int32)) + l2) x9 S11) fun S15 =>
        fn_Trees_dropNumbers_69 (fn_Trees_dropNumbers_4 n) l0 l1 (l2 + (1 : Int32)) l3 S15))))
    else
      (wd_d (fn_Row_put (l0 + 5) l1 l2 S1) fun S5 =>
      some S5)))
set_option maxRecDepth 100000 in
theorem sn_Trees_dropNumbers_4 {L : Nat} {xs : Nat → Int32} : ∀ (n : Nat) {l0 : Nat} {l1 : Int32} {l2 : Int32} {l3 : Int32} {S : wd_S} {S' : wd_S}, tp_t l0 = (0, 8) → fn_Trees_dropNumbers_4 n l0 l1 l2 l3 S = some S' → go_r tb_P L xs 2 114 4 [(0, .ref l0), (1, .int l1), (2, .int l2), (3, .int l3)] [] (wd_k S) (.inl none, wd_k S') := by
  intro n
  induction n with
  | zero => intro l0 l1 l2 l3 S S' hl0 h; cases h
  | succ n ih =>
    intro l0 l1 l2 l3 S S' hl0 h
    rw [fn_Trees_dropNumbers_4] at h
    refine bk_b (q := (7, [(0, .ref l0), (1, .int l1), (2, .int l2), (3, .int l3)], [.int l1, .ref l0, .int l3])) tb_c_114_0 mx_114 3 rfl ?_
    obtain ⟨x2, S1, c3, h⟩ := wd_cx h
    refine bk_kv tb_c_114_0 rfl rfl rfl rfl rfl (ci := 8) hl0 rfl (ev_up (Nat.le_of_ble_eq_true rfl) (sn_Trees_parts hl0 c3)) ?_
    by_cases g4 : l3 < x2
    · rw [if_pos g4] at h
      refine bk_jf tb_c_114_0 rfl (pc' := 13) rfl (t := 75) rfl (cm_ge_f g4) ?_
      refine bk_b (q := (16, [(0, .ref l0), (1, .int l1), (2, .int l2), (3, .int l3)], [.int l3, .int l1, .ref l0])) tb_c_114_0 mx_114 3 rfl ?_
      obtain ⟨x9, S8, c10, h⟩ := wd_cx h
      refine bk_kv tb_c_114_0 rfl rfl rfl rfl rfl (ci := 8) hl0 rfl (ev_up (Nat.le_of_ble_eq_true rfl) (sn_Trees_part hl0 c10)) ?_
      refine bk_b (q := (24, [(4, .int x9), (0, .ref l0), (1, .int l1), (2, .int l2), (3, .int l3)], [.int x9, .ref l0])) tb_c_114_0 mx_114 3 rfl ?_
      obtain ⟨x12, S11, c13, h⟩ := wd_cx h
      refine bk_kv tb_c_114_0 rfl rfl rfl rfl rfl (ci := 8) hl0 rfl (ev_up (Nat.le_of_ble_eq_true rfl) (sn_Trees_kind hl0 c13)) ?_
      refine bk_b (q := (28, [(4, .int x9), (0, .ref l0), (1, .int l1), (2, .int l2), (3, .int l3)], [.int (1 : Int32), .int x12])) tb_c_114_0 mx_114 1 rfl ?_
      by_cases g14 : x12 = (1 : Int32)
      · rw [if_pos g14] at h
        refine bk_jf tb_c_114_0 rfl (pc' := 31) rfl (t := 52) rfl (cm_ne_f g14) ?_
        refine bk_b (q := (32, [(4, .int x9), (0, .ref l0), (1, .int l1), (2, .int l2), (3, .int l3)], [.ref l0])) tb_c_114_0 mx_114 1 rfl ?_
        refine bk_go tb_c_114_0 rfl rfl (ci := 8) (k := 4) rfl hl0 rfl ?_
        refine bk_b (q := (37, [(4, .int x9), (0, .ref l0), (1, .int l1), (2, .int l2), (3, .int l3)], [.ref l0, .int l1, .ref (l0 + 9)])) tb_c_114_0 mx_114 2 rfl ?_
        refine bk_go tb_c_114_0 rfl rfl (ci := 8) (k := 4) rfl hl0 rfl ?_
        refine bk_b (q := (41, [(4, .int x9), (0, .ref l0), (1, .int l1), (2, .int l2), (3, .int l3)], [.int l1, .ref (l0 + 9), .int l1, .ref (l0 + 9)])) tb_c_114_0 mx_114 1 rfl ?_
        obtain ⟨x19, S18, c20, h⟩ := wd_cx h
        refine bk_kv tb_c_114_0 rfl rfl rfl rfl rfl (ci := 5) (tp_8_4 hl0) rfl (ev_up (Nat.le_of_ble_eq_true rfl) (sn_Row_at (tp_8_4 hl0) c20)) ?_
        refine bk_b (q := (46, [(4, .int x9), (0, .ref l0), (1, .int l1), (2, .int l2), (3, .int l3)], [.int (x19 - (1 : Int32)), .int l1, .ref (l0 + 9)])) tb_c_114_0 mx_114 2 rfl ?_
        obtain ⟨S21, c23, h⟩ := wd_dx h
        refine bk_kv tb_c_114_0 rfl rfl rfl rfl rfl (ci := 5) (tp_8_4 hl0) rfl (ev_up (Nat.le_of_ble_eq_true rfl) (sn_Row_put (tp_8_4 hl0) c23)) ?_
        refine bk_b (q := (69, [(4, .int x9), (0, .ref l0), (1, .int l1), (2, .int l2), (3, .int l3)], [])) tb_c_114_0 mx_114 1 rfl ?_
        exact go_lv (ls_sc rfl rfl (ls_sc rfl rfl (ls_sc rfl rfl (ls_sc rfl rfl ls_nil)))) (sn_Trees_dropNumbers_69 ih hl0 h)
      · rw [if_neg g14] at h
        refine bk_jt tb_c_114_0 rfl (pc' := 52) rfl (cm_ne_t g14) ?_
        refine bk_b (q := (53, [(4, .int x9), (0, .ref l0), (1, .int l1), (2, .int l2), (3, .int l3)], [.ref l0])) tb_c_114_0 mx_114 1 rfl ?_
        refine bk_go tb_c_114_0 rfl rfl (ci := 8) (k := 3) rfl hl0 rfl ?_
        refine bk_b (q := (63, [(4, .int x9), (0, .ref l0), (1, .int l1), (2, .int l2), (3, .int l3)], [.int x9, .int ((l1 * (4 : Int32)) + l2), .ref (l0 + 7)])) tb_c_114_0 mx_114 6 rfl ?_
        obtain ⟨S15, c17, h⟩ := wd_dx h
        refine bk_kv tb_c_114_0 rfl rfl rfl rfl rfl (ci := 5) (tp_8_3 hl0) rfl (ev_up (Nat.le_of_ble_eq_true rfl) (sn_Row_put (tp_8_3 hl0) c17)) ?_
        refine bk_b (q := (69, [(2, .int (l2 + (1 : Int32))), (4, .int x9), (0, .ref l0), (1, .int l1), (3, .int l3)], [])) tb_c_114_0 mx_114 1 rfl ?_
        exact go_lv (ls_sc rfl rfl (ls_sc rfl rfl (ls_sc rfl rfl (ls_sc rfl rfl ls_nil)))) (sn_Trees_dropNumbers_69 ih hl0 h)
    · rw [if_neg g4] at h
      refine bk_jt tb_c_114_0 rfl (pc' := 75) rfl (cm_ge_t g4) ?_
      refine bk_b (q := (76, [(0, .ref l0), (1, .int l1), (2, .int l2), (3, .int l3)], [.ref l0])) tb_c_114_1 mx_114 1 rfl ?_
      refine bk_go tb_c_114_1 rfl rfl (ci := 8) (k := 2) rfl hl0 rfl ?_
      refine bk_b (q := (81, [(0, .ref l0), (1, .int l1), (2, .int l2), (3, .int l3)], [.int l2, .int l1, .ref (l0 + 5)])) tb_c_114_1 mx_114 2 rfl ?_
      obtain ⟨S5, c7, h⟩ := wd_dx h
      refine bk_kv tb_c_114_1 rfl rfl rfl rfl rfl (ci := 5) (tp_8_2 hl0) rfl (ev_up (Nat.le_of_ble_eq_true rfl) (sn_Row_put (tp_8_2 hl0) c7)) ?_
      cases h
      exact bk_t tb_c_114_1 rfl rfl
/-- Specialiser$Trees.dropNumbers(I)V -/
noncomputable def fn_Trees_dropNumbers (p0 : Nat) (p1 : Int32) (S : wd_S) : Option wd_S :=
  fn_Trees_dropNumbers_4 wd_F p0 p1 (0 : Int32) (0 : Int32) S
set_option maxRecDepth 100000 in
theorem sn_Trees_dropNumbers {L : Nat} {xs : Nat → Int32} {p0 : Nat} {p1 : Int32} {S : wd_S} {S' : wd_S} (hp0 : tp_t p0 = (0, 8)) (h : fn_Trees_dropNumbers p0 p1 S = some S') : ev_r tb_P L xs (2 + 1) 114 [.ref p0, .int p1] (wd_k S) (.inl none, wd_k S') := by
  unfold fn_Trees_dropNumbers at h
  refine ev_of (Nat.le_of_ble_eq_true rfl) ?_
  show go_r tb_P L xs 2 114 0 [(0, .ref p0), (1, .int p1)] [] (wd_k S) (.inl none, wd_k S')
  refine bk_b (q := (4, [(3, .int (0 : Int32)), (2, .int (0 : Int32)), (0, .ref p0), (1, .int p1)], [])) tb_c_114_0 mx_114 4 rfl ?_
  exact go_lv (ls_sc rfl rfl (ls_sc rfl rfl (ls_sc rfl rfl (ls_sc rfl rfl ls_nil)))) (sn_Trees_dropNumbers_4 wd_F hp0 h)
theorem mx_111 : mi_mx tb_P 111 = 6 := rfl
noncomputable def fn_Maker_leadToVersion_109 (l1 : Int32) (l4 : Int32) (S : wd_S) : Option wd_S :=
  (if tp_t (S.2.2.1 115 4) = (0, 8) then
    (wd_d (fn_Trees_lead (S.2.2.1 115 4) l1 l4 S) fun S13 =>
    some S13)
  else none)
set_option maxRecDepth 100000 in
theorem sn_Maker_leadToVersion_109 {L : Nat} {xs : Nat → Int32} {l1 : Int32} {l4 : Int32} {S : wd_S} {S' : wd_S} (h : fn_Maker_leadToVersion_109 l1 l4 S = some S') : go_r tb_P L xs 3 111 109 [(0, .ref 115), (1, .int l1), (4, .int l4)] [] (wd_k S) (.inl none, wd_k S') := by
  unfold fn_Maker_leadToVersion_109 at h
  refine bk_b (q := (110, [(0, .ref 115), (1, .int l1), (4, .int l4)], [.ref 115])) tb_c_111_1 mx_111 1 rfl ?_
  refine bk_gm tb_c_111_1 rfl rfl (ci := 2) (k := 4) rfl rfl rfl ?_
  by_cases g12 : tp_t (S.2.2.1 115 4) = (0, 8)
  · rw [if_pos g12] at h
    refine bk_b (q := (116, [(0, .ref 115), (1, .int l1), (4, .int l4)], [.int l4, .int l1, .ref (S.2.2.1 115 4)])) tb_c_111_1 mx_111 2 rfl ?_
    obtain ⟨S13, c15, h⟩ := wd_dx h
    refine bk_kv tb_c_111_1 rfl rfl rfl rfl rfl (ci := 8) g12 rfl (ev_up (Nat.le_of_ble_eq_true rfl) (sn_Trees_lead g12 c15)) ?_
    cases h
    exact bk_t tb_c_111_1 rfl rfl
  · rw [if_neg g12] at h; cases h
noncomputable def fn_Maker_leadToVersion_92 (l1 : Int32) (l2 : Int32) (s0 : Nat) (s1 : Int32) (s2 : Int32) (S : wd_S) : Option wd_S :=
  (if tp_t (S.2.2.1 115 1) = (0, 0) then
    (wd_c (fn_Bodies_params (S.2.2.1 115 1) l2 S) fun x20 S19 =>
    (wd_c (fn_Versions_add s0 s1 s2 120 x20 S19) fun x23 S22 =>
    fn_Maker_leadToVersion_109 l1 x23 S22))
  else none)
set_option maxRecDepth 100000 in
theorem sn_Maker_leadToVersion_92 {L : Nat} {xs : Nat → Int32} {l1 : Int32} {l2 : Int32} {s0 : Nat} {s1 : Int32} {s2 : Int32} {S : wd_S} {S' : wd_S} (hs0 : tp_t s0 = (0, 9)) (h : fn_Maker_leadToVersion_92 l1 l2 s0 s1 s2 S = some S') : go_r tb_P L xs 3 111 92 [(0, .ref 115), (1, .int l1), (2, .int l2)] [.int s2, .int s1, .ref s0] (wd_k S) (.inl none, wd_k S') := by
  unfold fn_Maker_leadToVersion_92 at h
  refine bk_b (q := (93, [(0, .ref 115), (1, .int l1), (2, .int l2)], [.ref 115, .int s2, .int s1, .ref s0])) tb_c_111_1 mx_111 1 rfl ?_
  refine bk_gc tb_c_111_1 rfl rfl (ci := 2) (k := 7) rfl rfl rfl ?_
  refine bk_b (q := (97, [(0, .ref 115), (1, .int l1), (2, .int l2)], [.ref 115, .ref 120, .int s2, .int s1, .ref s0])) tb_c_111_1 mx_111 1 rfl ?_
  refine bk_gm tb_c_111_1 rfl rfl (ci := 2) (k := 1) rfl rfl rfl ?_
  by_cases g18 : tp_t (S.2.2.1 115 1) = (0, 0)
  · rw [if_pos g18] at h
    refine bk_b (q := (101, [(0, .ref 115), (1, .int l1), (2, .int l2)], [.int l2, .ref (S.2.2.1 115 1), .ref 120, .int s2, .int s1, .ref s0])) tb_c_111_1 mx_111 1 rfl ?_
    obtain ⟨x20, S19, c21, h⟩ := wd_cx h
    refine bk_kv tb_c_111_1 rfl rfl rfl rfl rfl (ci := 0) g18 rfl (ev_up (Nat.le_of_ble_eq_true rfl) (sn_Bodies_params g18 c21)) ?_
    obtain ⟨x23, S22, c24, h⟩ := wd_cx h
    refine bk_kv tb_c_111_1 rfl rfl rfl rfl rfl (ci := 9) hs0 rfl (ev_up (Nat.le_of_ble_eq_true rfl) (sn_Versions_add hs0 rfl c24)) ?_
    refine bk_b (q := (109, [(4, .int x23), (0, .ref 115), (1, .int l1), (2, .int l2)], [])) tb_c_111_1 mx_111 1 rfl ?_
    exact go_lv (ls_sc rfl rfl (ls_sc rfl rfl (ls_sc rfl rfl ls_nil))) (sn_Maker_leadToVersion_109 h)
  · rw [if_neg g18] at h; cases h
noncomputable def fn_Maker_leadToVersion_71 (l1 : Int32) (l2 : Int32) (l3 : Int32) (l4 : Int32) (l5 : Int32) (S : wd_S) : Option wd_S :=
  (if l4 = (-1 : Int32) then
    (if tp_t (S.2.2.1 115 3) = (0, 9) then
      (if l5 = 0 then
        fn_Maker_leadToVersion_92 l1 l2 (S.2.2.1 115 3) l2 (0 : Int32) S
      else
        fn_Maker_leadToVersion_92 l1 l2 (S.2.2.1 115 3) l2 l3 S)
    else none)
  else
    fn_Maker_leadToVersion_109 l1 l4 S)
set_option maxRecDepth 100000 in
theorem sn_Maker_leadToVersion_71 {L : Nat} {xs : Nat → Int32} {l1 : Int32} {l2 : Int32} {l3 : Int32} {l4 : Int32} {l5 : Int32} {S : wd_S} {S' : wd_S} (h : fn_Maker_leadToVersion_71 l1 l2 l3 l4 l5 S = some S') : go_r tb_P L xs 3 111 71 [(0, .ref 115), (1, .int l1), (2, .int l2), (3, .int l3), (4, .int l4), (5, .int l5)] [] (wd_k S) (.inl none, wd_k S') := by
  unfold fn_Maker_leadToVersion_71 at h
  refine bk_b (q := (74, [(0, .ref 115), (1, .int l1), (2, .int l2), (3, .int l3), (4, .int l4), (5, .int l5)], [.int (-1 : Int32), .int l4])) tb_c_111_0 mx_111 2 rfl ?_
  by_cases g11 : l4 = (-1 : Int32)
  · rw [if_pos g11] at h
    refine bk_jf tb_c_111_0 rfl (pc' := 77) rfl (t := 109) rfl (cm_ne_f g11) ?_
    refine bk_b (q := (78, [(0, .ref 115), (1, .int l1), (2, .int l2), (3, .int l3), (4, .int l4), (5, .int l5)], [.ref 115])) tb_c_111_0 mx_111 1 rfl ?_
    refine bk_gm tb_c_111_0 rfl rfl (ci := 2) (k := 3) rfl rfl rfl ?_
    by_cases g16 : tp_t (S.2.2.1 115 3) = (0, 9)
    · rw [if_pos g16] at h
      refine bk_b (q := (84, [(0, .ref 115), (1, .int l1), (2, .int l2), (3, .int l3), (4, .int l4), (5, .int l5)], [.int l5, .int l2, .ref (S.2.2.1 115 3)])) tb_c_111_1 mx_111 2 rfl ?_
      by_cases g17 : l5 = 0
      · rw [if_pos g17] at h
        refine bk_zt tb_c_111_1 rfl (pc' := 91) rfl (cm_eq_t g17) ?_
        refine bk_b (q := (92, [(0, .ref 115), (1, .int l1), (2, .int l2), (3, .int l3), (4, .int l4), (5, .int l5)], [.int (0 : Int32), .int l2, .ref (S.2.2.1 115 3)])) tb_c_111_1 mx_111 1 rfl ?_
        exact go_lv (ls_sc rfl rfl (ls_sc rfl rfl (ls_sc rfl rfl ls_nil))) (sn_Maker_leadToVersion_92 g16 h)
      · rw [if_neg g17] at h
        refine bk_zf tb_c_111_1 rfl (pc' := 87) rfl (t := 91) rfl (cm_eq_f g17) ?_
        refine bk_b (q := (92, [(0, .ref 115), (1, .int l1), (2, .int l2), (3, .int l3), (4, .int l4), (5, .int l5)], [.int l3, .int l2, .ref (S.2.2.1 115 3)])) tb_c_111_1 mx_111 2 rfl ?_
        exact go_lv (ls_sc rfl rfl (ls_sc rfl rfl (ls_sc rfl rfl ls_nil))) (sn_Maker_leadToVersion_92 g16 h)
    · rw [if_neg g16] at h; cases h
  · rw [if_neg g11] at h
    refine bk_jt tb_c_111_0 rfl (pc' := 109) rfl (cm_ne_t g11) ?_
    exact go_lv (ls_sc rfl rfl (ls_sc rfl rfl (ls_sc rfl rfl ls_nil))) (sn_Maker_leadToVersion_109 h)
noncomputable def fn_Maker_leadToVersion_38 (l1 : Int32) (l2 : Int32) (l3 : Int32) (l4 : Int32) (s0 : Int32) (S : wd_S) : Option wd_S :=
  (if s0 = 0 then
    (if tp_t (S.2.2.1 115 3) = (0, 9) then
      (wd_c (fn_Versions_find (S.2.2.1 115 3) l2 (0 : Int32) 120 S) fun x9 S8 =>
      fn_Maker_leadToVersion_71 l1 l2 l3 x9 s0 S8)
    else none)
  else
    (if tp_t (S.2.2.1 115 4) = (0, 8) then
      (wd_d (fn_Trees_dropNumbers (S.2.2.1 115 4) l1 S) fun S26 =>
      fn_Maker_leadToVersion_71 l1 l2 l3 l4 s0 S26)
    else none))
set_option maxRecDepth 100000 in
theorem sn_Maker_leadToVersion_38 {L : Nat} {xs : Nat → Int32} {l1 : Int32} {l2 : Int32} {l3 : Int32} {l4 : Int32} {s0 : Int32} {S : wd_S} {S' : wd_S} (h : fn_Maker_leadToVersion_38 l1 l2 l3 l4 s0 S = some S') : go_r tb_P L xs 3 111 38 [(0, .ref 115), (1, .int l1), (2, .int l2), (3, .int l3), (4, .int l4)] [.int s0] (wd_k S) (.inl none, wd_k S') := by
  unfold fn_Maker_leadToVersion_38 at h
  refine bk_b (q := (42, [(5, .int s0), (0, .ref 115), (1, .int l1), (2, .int l2), (3, .int l3), (4, .int l4)], [.int s0])) tb_c_111_0 mx_111 2 rfl ?_
  by_cases g6 : s0 = 0
  · rw [if_pos g6] at h
    refine bk_zt tb_c_111_0 rfl (pc' := 56) rfl (cm_eq_t g6) ?_
    refine bk_b (q := (57, [(5, .int s0), (0, .ref 115), (1, .int l1), (2, .int l2), (3, .int l3), (4, .int l4)], [.ref 115])) tb_c_111_0 mx_111 1 rfl ?_
    refine bk_gm tb_c_111_0 rfl rfl (ci := 2) (k := 3) rfl rfl rfl ?_
    by_cases g7 : tp_t (S.2.2.1 115 3) = (0, 9)
    · rw [if_pos g7] at h
      refine bk_b (q := (63, [(5, .int s0), (0, .ref 115), (1, .int l1), (2, .int l2), (3, .int l3), (4, .int l4)], [.ref 115, .int (0 : Int32), .int l2, .ref (S.2.2.1 115 3)])) tb_c_111_0 mx_111 3 rfl ?_
      refine bk_gc tb_c_111_0 rfl rfl (ci := 2) (k := 7) rfl rfl rfl ?_
      obtain ⟨x9, S8, c10, h⟩ := wd_cx h
      refine bk_kv tb_c_111_0 rfl rfl rfl rfl rfl (ci := 9) g7 rfl (ev_up (Nat.le_of_ble_eq_true rfl) (sn_Versions_find g7 rfl c10)) ?_
      refine bk_b (q := (71, [(4, .int x9), (5, .int s0), (0, .ref 115), (1, .int l1), (2, .int l2), (3, .int l3)], [])) tb_c_111_0 mx_111 1 rfl ?_
      exact go_lv (ls_sc rfl rfl (ls_sc rfl rfl (ls_sc rfl rfl (ls_sc rfl rfl (ls_sc rfl rfl (ls_sc rfl rfl ls_nil)))))) (sn_Maker_leadToVersion_71 h)
    · rw [if_neg g7] at h; cases h
  · rw [if_neg g6] at h
    refine bk_zf tb_c_111_0 rfl (pc' := 45) rfl (t := 56) rfl (cm_eq_f g6) ?_
    refine bk_b (q := (46, [(5, .int s0), (0, .ref 115), (1, .int l1), (2, .int l2), (3, .int l3), (4, .int l4)], [.ref 115])) tb_c_111_0 mx_111 1 rfl ?_
    refine bk_gm tb_c_111_0 rfl rfl (ci := 2) (k := 4) rfl rfl rfl ?_
    by_cases g25 : tp_t (S.2.2.1 115 4) = (0, 8)
    · rw [if_pos g25] at h
      refine bk_b (q := (50, [(5, .int s0), (0, .ref 115), (1, .int l1), (2, .int l2), (3, .int l3), (4, .int l4)], [.int l1, .ref (S.2.2.1 115 4)])) tb_c_111_0 mx_111 1 rfl ?_
      obtain ⟨S26, c28, h⟩ := wd_dx h
      refine bk_kv tb_c_111_0 rfl rfl rfl rfl rfl (ci := 8) g25 rfl (ev_up (Nat.le_of_ble_eq_true rfl) (sn_Trees_dropNumbers g25 c28)) ?_
      refine bk_b (q := (71, [(5, .int s0), (0, .ref 115), (1, .int l1), (2, .int l2), (3, .int l3), (4, .int l4)], [])) tb_c_111_0 mx_111 1 rfl ?_
      exact go_lv (ls_sc rfl rfl (ls_sc rfl rfl (ls_sc rfl rfl (ls_sc rfl rfl (ls_sc rfl rfl (ls_sc rfl rfl ls_nil)))))) (sn_Maker_leadToVersion_71 h)
    · rw [if_neg g25] at h; cases h
noncomputable def fn_Maker_leadToVersion_33 (l1 : Int32) (l2 : Int32) (l3 : Int32) (l4 : Int32) (S : wd_S) : Option wd_S :=
  fn_Maker_leadToVersion_38 l1 l2 l3 l4 (1 : Int32) S
set_option maxRecDepth 100000 in
theorem sn_Maker_leadToVersion_33 {L : Nat} {xs : Nat → Int32} {l1 : Int32} {l2 : Int32} {l3 : Int32} {l4 : Int32} {S : wd_S} {S' : wd_S} (h : fn_Maker_leadToVersion_33 l1 l2 l3 l4 S = some S') : go_r tb_P L xs 3 111 33 [(0, .ref 115), (1, .int l1), (2, .int l2), (3, .int l3), (4, .int l4)] [] (wd_k S) (.inl none, wd_k S') := by
  unfold fn_Maker_leadToVersion_33 at h
  refine bk_b (q := (38, [(0, .ref 115), (1, .int l1), (2, .int l2), (3, .int l3), (4, .int l4)], [.int (1 : Int32)])) tb_c_111_0 mx_111 2 rfl ?_
  exact go_lv (ls_sc rfl rfl (ls_sc rfl rfl (ls_sc rfl rfl (ls_sc rfl rfl (ls_sc rfl rfl ls_nil))))) (sn_Maker_leadToVersion_38 h)
/-- Specialiser$Maker.leadToVersion(III)V -/
noncomputable def fn_Maker_leadToVersion (p1 : Int32) (p2 : Int32) (p3 : Int32) (S : wd_S) : Option wd_S :=
  (if tp_t (S.2.2.1 115 3) = (0, 9) then
    (wd_c (fn_Versions_find (S.2.2.1 115 3) p2 p3 120 S) fun x3 S2 =>
    (if x3 = (-1 : Int32) then
      (if tp_t (S2.2.2.1 115 3) = (0, 9) then
        (wd_c (fn_Versions_count (S2.2.2.1 115 3) S2) fun x31 S30 =>
        (if x31 < (30 : Int32) then
          fn_Maker_leadToVersion_33 p1 p2 p3 x3 S30
        else
          fn_Maker_leadToVersion_38 p1 p2 p3 x3 (0 : Int32) S30))
      else none)
    else
      fn_Maker_leadToVersion_33 p1 p2 p3 x3 S2))
  else none)
set_option maxRecDepth 100000 in
theorem sn_Maker_leadToVersion {L : Nat} {xs : Nat → Int32} {p1 : Int32} {p2 : Int32} {p3 : Int32} {S : wd_S} {S' : wd_S} (h : fn_Maker_leadToVersion p1 p2 p3 S = some S') : ev_r tb_P L xs (3 + 1) 111 [.ref 115, .int p1, .int p2, .int p3] (wd_k S) (.inl none, wd_k S') := by
  unfold fn_Maker_leadToVersion at h
  refine ev_of (Nat.le_of_ble_eq_true rfl) ?_
  show go_r tb_P L xs 3 111 0 [(0, .ref 115), (1, .int p1), (2, .int p2), (3, .int p3)] [] (wd_k S) (.inl none, wd_k S')
  refine bk_b (q := (1, [(0, .ref 115), (1, .int p1), (2, .int p2), (3, .int p3)], [.ref 115])) tb_c_111_0 mx_111 1 rfl ?_
  refine bk_gm tb_c_111_0 rfl rfl (ci := 2) (k := 3) rfl rfl rfl ?_
  by_cases g1 : tp_t (S.2.2.1 115 3) = (0, 9)
  · rw [if_pos g1] at h
    refine bk_b (q := (7, [(0, .ref 115), (1, .int p1), (2, .int p2), (3, .int p3)], [.ref 115, .int p3, .int p2, .ref (S.2.2.1 115 3)])) tb_c_111_0 mx_111 3 rfl ?_
    refine bk_gc tb_c_111_0 rfl rfl (ci := 2) (k := 7) rfl rfl rfl ?_
    obtain ⟨x3, S2, c4, h⟩ := wd_cx h
    refine bk_kv tb_c_111_0 rfl rfl rfl rfl rfl (ci := 9) g1 rfl (ev_up (Nat.le_of_ble_eq_true rfl) (sn_Versions_find g1 rfl c4)) ?_
    refine bk_b (q := (18, [(4, .int x3), (0, .ref 115), (1, .int p1), (2, .int p2), (3, .int p3)], [.int (-1 : Int32), .int x3])) tb_c_111_0 mx_111 3 rfl ?_
    by_cases g5 : x3 = (-1 : Int32)
    · rw [if_pos g5] at h
      refine bk_jf tb_c_111_0 rfl (pc' := 21) rfl (t := 33) rfl (cm_ne_f g5) ?_
      refine bk_b (q := (22, [(4, .int x3), (0, .ref 115), (1, .int p1), (2, .int p2), (3, .int p3)], [.ref 115])) tb_c_111_0 mx_111 1 rfl ?_
      refine bk_gm tb_c_111_0 rfl rfl (ci := 2) (k := 3) rfl rfl rfl ?_
      by_cases g29 : tp_t (S2.2.2.1 115 3) = (0, 9)
      · rw [if_pos g29] at h
        obtain ⟨x31, S30, c32, h⟩ := wd_cx h
        refine bk_kv tb_c_111_0 rfl rfl rfl rfl rfl (ci := 9) g29 rfl (ev_up (Nat.le_of_ble_eq_true rfl) (sn_Versions_count g29 c32)) ?_
        refine bk_b (q := (30, [(4, .int x3), (0, .ref 115), (1, .int p1), (2, .int p2), (3, .int p3)], [.int (30 : Int32), .int x31])) tb_c_111_0 mx_111 1 rfl ?_
        by_cases g33 : x31 < (30 : Int32)
        · rw [if_pos g33] at h
          refine bk_jf tb_c_111_0 rfl (pc' := 33) rfl (t := 37) rfl (cm_ge_f g33) ?_
          exact go_lv (ls_sc rfl rfl (ls_sc rfl rfl (ls_sc rfl rfl (ls_sc rfl rfl (ls_sc rfl rfl ls_nil))))) (sn_Maker_leadToVersion_33 h)
        · rw [if_neg g33] at h
          refine bk_jt tb_c_111_0 rfl (pc' := 37) rfl (cm_ge_t g33) ?_
          refine bk_b (q := (38, [(4, .int x3), (0, .ref 115), (1, .int p1), (2, .int p2), (3, .int p3)], [.int (0 : Int32)])) tb_c_111_0 mx_111 1 rfl ?_
          exact go_lv (ls_sc rfl rfl (ls_sc rfl rfl (ls_sc rfl rfl (ls_sc rfl rfl (ls_sc rfl rfl ls_nil))))) (sn_Maker_leadToVersion_38 h)
      · rw [if_neg g29] at h; cases h
    · rw [if_neg g5] at h
      refine bk_jt tb_c_111_0 rfl (pc' := 33) rfl (cm_ne_t g5) ?_
      exact go_lv (ls_sc rfl rfl (ls_sc rfl rfl (ls_sc rfl rfl (ls_sc rfl rfl (ls_sc rfl rfl ls_nil))))) (sn_Maker_leadToVersion_33 h)
  · rw [if_neg g1] at h; cases h
theorem mx_98 : mi_mx tb_P 98 = 6 := rfl
noncomputable def fn_Maker_becomeCall_155 (slf : Nat → Int32 → Int32 → wd_S → Option ((Int32 ⊕ String) × wd_S)) (l3 : Int32) (l4 : Int32) (l5 : Int32) (S : wd_S) : Option ((Int32 ⊕ String) × wd_S) :=
  (wd_d (fn_Maker_leadToVersion l3 l4 l5 S) fun S18 =>
  some (.inl l3, S18))
set_option maxRecDepth 100000 in
theorem sn_Maker_becomeCall_155 {L : Nat} {xs : Nat → Int32} {D : Nat} {slf : Nat → Int32 → Int32 → wd_S → Option ((Int32 ⊕ String) × wd_S)} (hD : 4 ≤ D) (hs93 : ∀ {a b : Int32} {S : wd_S} {x : Int32 ⊕ String} {S' : wd_S}, slf 93 a b S = some (x, S') → ev_r tb_P L xs D 93 [.ref 115, .int a, .int b] (wd_k S) (wd_wi x, wd_k S')) (hs94 : ∀ {a b : Int32} {S : wd_S} {x : Int32 ⊕ String} {S' : wd_S}, slf 94 a b S = some (x, S') → ev_r tb_P L xs D 94 [.ref 115, .int a, .int b] (wd_k S) (wd_wi x, wd_k S')) (hs97 : ∀ {a b : Int32} {S : wd_S} {x : Int32 ⊕ String} {S' : wd_S}, slf 97 a b S = some (x, S') → ev_r tb_P L xs D 97 [.ref 115, .int a, .int b] (wd_k S) (wd_wi x, wd_k S')) (hs98 : ∀ {a b : Int32} {S : wd_S} {x : Int32 ⊕ String} {S' : wd_S}, slf 98 a b S = some (x, S') → ev_r tb_P L xs D 98 [.ref 115, .int a, .int b] (wd_k S) (wd_wi x, wd_k S')) (hs115 : ∀ {a b : Int32} {S : wd_S} {x : Int32 ⊕ String} {S' : wd_S}, slf 115 a b S = some (x, S') → ev_r tb_P L xs D 115 [.ref 115, .int a, .int b] (wd_k S) (wd_wi x, wd_k S')) {l3 : Int32} {l4 : Int32} {l5 : Int32} {S : wd_S} {x : Int32 ⊕ String} {S' : wd_S} (h : fn_Maker_becomeCall_155 slf l3 l4 l5 S = some (x, S')) : go_r tb_P L xs D 98 155 [(0, .ref 115), (3, .int l3), (4, .int l4), (5, .int l5)] [] (wd_k S) (wd_wi x, wd_k S') := by
  unfold fn_Maker_becomeCall_155 at h
  refine bk_b (q := (161, [(0, .ref 115), (3, .int l3), (4, .int l4), (5, .int l5)], [.int l5, .int l4, .int l3, .ref 115])) tb_c_98_2 mx_98 4 rfl ?_
  obtain ⟨S18, c20, h⟩ := wd_dx h
  refine bk_kv tb_c_98_2 rfl rfl rfl rfl rfl (ci := 2) rfl rfl (ev_up (Nat.le_trans (Nat.le_of_ble_eq_true rfl) hD) (sn_Maker_leadToVersion c20)) ?_
  refine bk_b (q := (165, [(0, .ref 115), (3, .int l3), (4, .int l4), (5, .int l5)], [.int l3])) tb_c_98_2 mx_98 1 rfl ?_
  cases h
  exact bk_t tb_c_98_2 rfl rfl
noncomputable def fn_Maker_becomeCall_63 (slf : Nat → Int32 → Int32 → wd_S → Option ((Int32 ⊕ String) × wd_S)) (l1 : Int32) (l3 : Int32) (S : wd_S) : Option ((Int32 ⊕ String) × wd_S) :=
  (if tp_t (S.2.2.1 115 2) = (0, 8) then
    (wd_c (fn_Trees_value (S.2.2.1 115 2) l1 S) fun x8 S7 =>
    (wd_c (fn_Maker_gatherWanted l3 S7) fun x11 S10 =>
    (if tp_t (S10.2.2.1 115 1) = (0, 0) then
      (wd_c (fn_Bodies_paramMask (S10.2.2.1 115 1) x8 S10) fun x15 S14 =>
      (if x11 = x15 then
        (wd_b (wd_i S14 115 9 ((S14.1 115 9) + (1 : Int32))) fun S21 =>
        (if tp_t (S21.2.2.1 115 1) = (0, 0) then
          (wd_c (fn_Runner_work (S21.2.2.1 115 1) x8 120 (500 : Int32) S21) fun x24 S23 =>
          (if x24 = (1 : Int32) then
            (wd_b (wd_i S23 115 10 ((S23.1 115 10) + (1 : Int32))) fun S27 =>
            (if tp_t (S27.2.2.1 115 4) = (0, 8) then
              (wd_c (fn_Runner_result  S27) fun x30 S29 =>
              (wd_d (fn_Trees_turnIntoNumber (S27.2.2.1 115 4) l3 x30 S29) fun S32 =>
              some (.inl l3, S32)))
            else none))
          else
            fn_Maker_becomeCall_155 slf l3 x8 x11 S23))
        else none))
      else
        fn_Maker_becomeCall_155 slf l3 x8 x11 S14))
    else none)))
  else none)
set_option maxRecDepth 100000 in
theorem sn_Maker_becomeCall_63 {L : Nat} {xs : Nat → Int32} {D : Nat} {slf : Nat → Int32 → Int32 → wd_S → Option ((Int32 ⊕ String) × wd_S)} (hD : 4 ≤ D) (hs93 : ∀ {a b : Int32} {S : wd_S} {x : Int32 ⊕ String} {S' : wd_S}, slf 93 a b S = some (x, S') → ev_r tb_P L xs D 93 [.ref 115, .int a, .int b] (wd_k S) (wd_wi x, wd_k S')) (hs94 : ∀ {a b : Int32} {S : wd_S} {x : Int32 ⊕ String} {S' : wd_S}, slf 94 a b S = some (x, S') → ev_r tb_P L xs D 94 [.ref 115, .int a, .int b] (wd_k S) (wd_wi x, wd_k S')) (hs97 : ∀ {a b : Int32} {S : wd_S} {x : Int32 ⊕ String} {S' : wd_S}, slf 97 a b S = some (x, S') → ev_r tb_P L xs D 97 [.ref 115, .int a, .int b] (wd_k S) (wd_wi x, wd_k S')) (hs98 : ∀ {a b : Int32} {S : wd_S} {x : Int32 ⊕ String} {S' : wd_S}, slf 98 a b S = some (x, S') → ev_r tb_P L xs D 98 [.ref 115, .int a, .int b] (wd_k S) (wd_wi x, wd_k S')) (hs115 : ∀ {a b : Int32} {S : wd_S} {x : Int32 ⊕ String} {S' : wd_S}, slf 115 a b S = some (x, S') → ev_r tb_P L xs D 115 [.ref 115, .int a, .int b] (wd_k S) (wd_wi x, wd_k S')) {l1 : Int32} {l3 : Int32} {S : wd_S} {x : Int32 ⊕ String} {S' : wd_S} (h : fn_Maker_becomeCall_63 slf l1 l3 S = some (x, S')) : go_r tb_P L xs D 98 63 [(0, .ref 115), (1, .int l1), (3, .int l3)] [] (wd_k S) (wd_wi x, wd_k S') := by
  unfold fn_Maker_becomeCall_63 at h
  refine bk_b (q := (64, [(0, .ref 115), (1, .int l1), (3, .int l3)], [.ref 115])) tb_c_98_0 mx_98 1 rfl ?_
  refine bk_gm tb_c_98_0 rfl rfl (ci := 2) (k := 2) rfl rfl rfl ?_
  by_cases g6 : tp_t (S.2.2.1 115 2) = (0, 8)
  · rw [if_pos g6] at h
    refine bk_b (q := (68, [(0, .ref 115), (1, .int l1), (3, .int l3)], [.int l1, .ref (S.2.2.1 115 2)])) tb_c_98_0 mx_98 1 rfl ?_
    obtain ⟨x8, S7, c9, h⟩ := wd_cx h
    refine bk_kv tb_c_98_0 rfl rfl rfl rfl rfl (ci := 8) g6 rfl (ev_up (Nat.le_trans (Nat.le_of_ble_eq_true rfl) hD) (sn_Trees_value g6 c9)) ?_
    refine bk_b (q := (75, [(4, .int x8), (0, .ref 115), (1, .int l1), (3, .int l3)], [.int l3, .ref 115])) tb_c_98_0 mx_98 3 rfl ?_
    obtain ⟨x11, S10, c12, h⟩ := wd_cx h
    refine bk_kv tb_c_98_1 rfl rfl rfl rfl rfl (ci := 2) rfl rfl (ev_up (Nat.le_trans (Nat.le_of_ble_eq_true rfl) hD) (sn_Maker_gatherWanted c12)) ?_
    refine bk_b (q := (83, [(5, .int x11), (4, .int x8), (0, .ref 115), (1, .int l1), (3, .int l3)], [.ref 115, .int x11])) tb_c_98_1 mx_98 3 rfl ?_
    refine bk_gm tb_c_98_1 rfl rfl (ci := 2) (k := 1) rfl rfl rfl ?_
    by_cases g13 : tp_t (S10.2.2.1 115 1) = (0, 0)
    · rw [if_pos g13] at h
      refine bk_b (q := (88, [(5, .int x11), (4, .int x8), (0, .ref 115), (1, .int l1), (3, .int l3)], [.int x8, .ref (S10.2.2.1 115 1), .int x11])) tb_c_98_1 mx_98 1 rfl ?_
      obtain ⟨x15, S14, c16, h⟩ := wd_cx h
      refine bk_kv tb_c_98_1 rfl rfl rfl rfl rfl (ci := 0) g13 rfl (ev_up (Nat.le_trans (Nat.le_of_ble_eq_true rfl) hD) (sn_Bodies_paramMask g13 c16)) ?_
      by_cases g17 : x11 = x15
      · rw [if_pos g17] at h
        refine bk_jf tb_c_98_1 rfl (pc' := 94) rfl (t := 155) rfl (cm_ne_f g17) ?_
        refine bk_b (q := (96, [(5, .int x11), (4, .int x8), (0, .ref 115), (1, .int l1), (3, .int l3)], [.ref 115, .ref 115])) tb_c_98_1 mx_98 2 rfl ?_
        refine bk_gi tb_c_98_1 rfl rfl (ci := 2) (k := 9) rfl rfl rfl ?_
        refine bk_b (q := (101, [(5, .int x11), (4, .int x8), (0, .ref 115), (1, .int l1), (3, .int l3)], [.int ((S14.1 115 9) + (1 : Int32)), .ref 115])) tb_c_98_1 mx_98 2 rfl ?_
        obtain ⟨S21, eS21, h⟩ := wd_bx h
        refine bk_pi tb_c_98_1 rfl rfl (ci := 2) (k := 9) rfl rfl rfl rfl ?_
        rw [eS21]
        refine bk_b (q := (105, [(5, .int x11), (4, .int x8), (0, .ref 115), (1, .int l1), (3, .int l3)], [.ref 115])) tb_c_98_1 mx_98 1 rfl ?_
        refine bk_gc tb_c_98_1 rfl rfl (ci := 2) (k := 0) rfl rfl rfl ?_
        refine bk_b (q := (109, [(5, .int x11), (4, .int x8), (0, .ref 115), (1, .int l1), (3, .int l3)], [.ref 115, .ref 104])) tb_c_98_1 mx_98 1 rfl ?_
        refine bk_gm tb_c_98_1 rfl rfl (ci := 2) (k := 1) rfl rfl rfl ?_
        by_cases g22 : tp_t (S21.2.2.1 115 1) = (0, 0)
        · rw [if_pos g22] at h
          refine bk_b (q := (115, [(5, .int x11), (4, .int x8), (0, .ref 115), (1, .int l1), (3, .int l3)], [.ref 115, .int x8, .ref (S21.2.2.1 115 1), .ref 104])) tb_c_98_1 mx_98 2 rfl ?_
          refine bk_gc tb_c_98_1 rfl rfl (ci := 2) (k := 7) rfl rfl rfl ?_
          refine bk_b (q := (121, [(5, .int x11), (4, .int x8), (0, .ref 115), (1, .int l1), (3, .int l3)], [.int (500 : Int32), .ref 120, .int x8, .ref (S21.2.2.1 115 1), .ref 104])) tb_c_98_1 mx_98 1 rfl ?_
          obtain ⟨x24, S23, c25, h⟩ := wd_cx h
          refine bk_kv tb_c_98_1 rfl rfl rfl rfl rfl (ci := 6) rfl rfl (ev_up (Nat.le_trans (Nat.le_of_ble_eq_true rfl) hD) (sn_Runner_work g22 rfl c25)) ?_
          refine bk_b (q := (125, [(5, .int x11), (4, .int x8), (0, .ref 115), (1, .int l1), (3, .int l3)], [.int (1 : Int32), .int x24])) tb_c_98_1 mx_98 1 rfl ?_
          by_cases g26 : x24 = (1 : Int32)
          · rw [if_pos g26] at h
            refine bk_jf tb_c_98_1 rfl (pc' := 128) rfl (t := 155) rfl (cm_ne_f g26) ?_
            refine bk_b (q := (130, [(5, .int x11), (4, .int x8), (0, .ref 115), (1, .int l1), (3, .int l3)], [.ref 115, .ref 115])) tb_c_98_1 mx_98 2 rfl ?_
            refine bk_gi tb_c_98_1 rfl rfl (ci := 2) (k := 10) rfl rfl rfl ?_
            refine bk_b (q := (135, [(5, .int x11), (4, .int x8), (0, .ref 115), (1, .int l1), (3, .int l3)], [.int ((S23.1 115 10) + (1 : Int32)), .ref 115])) tb_c_98_1 mx_98 2 rfl ?_
            obtain ⟨S27, eS27, h⟩ := wd_bx h
            refine bk_pi tb_c_98_1 rfl rfl (ci := 2) (k := 10) rfl rfl rfl rfl ?_
            rw [eS27]
            refine bk_b (q := (139, [(5, .int x11), (4, .int x8), (0, .ref 115), (1, .int l1), (3, .int l3)], [.ref 115])) tb_c_98_1 mx_98 1 rfl ?_
            refine bk_gm tb_c_98_1 rfl rfl (ci := 2) (k := 4) rfl rfl rfl ?_
            by_cases g28 : tp_t (S27.2.2.1 115 4) = (0, 8)
            · rw [if_pos g28] at h
              refine bk_b (q := (144, [(5, .int x11), (4, .int x8), (0, .ref 115), (1, .int l1), (3, .int l3)], [.ref 115, .int l3, .ref (S27.2.2.1 115 4)])) tb_c_98_1 mx_98 2 rfl ?_
              refine bk_gc tb_c_98_1 rfl rfl (ci := 2) (k := 0) rfl rfl rfl ?_
              obtain ⟨x30, S29, c31, h⟩ := wd_cx h
              refine bk_kv tb_c_98_1 rfl rfl rfl rfl rfl (ci := 6) rfl rfl (ev_up (Nat.le_trans (Nat.le_of_ble_eq_true rfl) hD) (sn_Runner_result c31)) ?_
              obtain ⟨S32, c34, h⟩ := wd_dx h
              refine bk_kv tb_c_98_1 rfl rfl rfl rfl rfl (ci := 8) g28 rfl (ev_up (Nat.le_trans (Nat.le_of_ble_eq_true rfl) hD) (sn_Trees_turnIntoNumber g28 c34)) ?_
              refine bk_b (q := (154, [(5, .int x11), (4, .int x8), (0, .ref 115), (1, .int l1), (3, .int l3)], [.int l3])) tb_c_98_1 mx_98 1 rfl ?_
              cases h
              exact bk_t tb_c_98_1 rfl rfl
            · rw [if_neg g28] at h; cases h
          · rw [if_neg g26] at h
            refine bk_jt tb_c_98_1 rfl (pc' := 155) rfl (cm_ne_t g26) ?_
            exact go_lv (ls_sc rfl rfl (ls_sc rfl rfl (ls_sc rfl rfl (ls_sc rfl rfl ls_nil)))) (sn_Maker_becomeCall_155 hD hs93 hs94 hs97 hs98 hs115 h)
        · rw [if_neg g22] at h; cases h
      · rw [if_neg g17] at h
        refine bk_jt tb_c_98_1 rfl (pc' := 155) rfl (cm_ne_t g17) ?_
        exact go_lv (ls_sc rfl rfl (ls_sc rfl rfl (ls_sc rfl rfl (ls_sc rfl rfl ls_nil)))) (sn_Maker_becomeCall_155 hD hs93 hs94 hs97 hs98 hs115 h)
    · rw [if_neg g13] at h; cases h
  · rw [if_neg g6] at h; cases h
noncomputable def fn_Maker_becomeCall_13 (slf : Nat → Int32 → Int32 → wd_S → Option ((Int32 ⊕ String) × wd_S)) : Nat → Int32 → Int32 → Int32 → Int32 → wd_S → Option ((Int32 ⊕ String) × wd_S)
  | 0, _, _, _, _, _ => none
  | n + 1, l1, l2, l3, l4, S =>
    (if l4 < (4 : Int32) then
      (if tp_t (S.2.2.1 115 2) = (0, 8) then
        (wd_c (fn_Trees_parts (S.2.2.1 115 2) l1 S) fun x37 S36 =>
        (if l4 < x37 then
          (if tp_t (S36.2.2.1 115 4) = (0, 8) then
            (if tp_t (S36.2.2.1 115 2) = (0, 8) then
              (wd_c (fn_Trees_part (S36.2.2.1 115 2) l1 l4 S36) fun x43 S42 =>
              (wd_c (slf 93 x43 (l2 + (1 : Int32)) S42) fun x46o S45 => wd_o x46o (fun x46 =>
              (wd_d (fn_Trees_append (S36.2.2.1 115 4) l3 x46 S45) fun S49 =>
              fn_Maker_becomeCall_13 slf n l1 l2 l3 (l4 + (1 : Int32)) S49)) (fun E48 => some (.inr E48, S45))))
            else none)
          else none)
        else
          fn_Maker_becomeCall_63 slf l1 l3 S36))
      else none)
    else
      fn_Maker_becomeCall_63 slf l1 l3 S)
set_option maxRecDepth 100000 in
theorem sn_Maker_becomeCall_13 {L : Nat} {xs : Nat → Int32} {D : Nat} {slf : Nat → Int32 → Int32 → wd_S → Option ((Int32 ⊕ String) × wd_S)} (hD : 4 ≤ D) (hs93 : ∀ {a b : Int32} {S : wd_S} {x : Int32 ⊕ String} {S' : wd_S}, slf 93 a b S = some (x, S') → ev_r tb_P L xs D 93 [.ref 115, .int a, .int b] (wd_k S) (wd_wi x, wd_k S')) (hs94 : ∀ {a b : Int32} {S : wd_S} {x : Int32 ⊕ String} {S' : wd_S}, slf 94 a b S = some (x, S') → ev_r tb_P L xs D 94 [.ref 115, .int a, .int b] (wd_k S) (wd_wi x, wd_k S')) (hs97 : ∀ {a b : Int32} {S : wd_S} {x : Int32 ⊕ String} {S' : wd_S}, slf 97 a b S = some (x, S') → ev_r tb_P L xs D 97 [.ref 115, .int a, .int b] (wd_k S) (wd_wi x, wd_k S')) (hs98 : ∀ {a b : Int32} {S : wd_S} {x : Int32 ⊕ String} {S' : wd_S}, slf 98 a b S = some (x, S') → ev_r tb_P L xs D 98 [.ref 115, .int a, .int b] (wd_k S) (wd_wi x, wd_k S')) (hs115 : ∀ {a b : Int32} {S : wd_S} {x : Int32 ⊕ String} {S' : wd_S}, slf 115 a b S = some (x, S') → ev_r tb_P L xs D 115 [.ref 115, .int a, .int b] (wd_k S) (wd_wi x, wd_k S')) : ∀ (n : Nat) {l1 : Int32} {l2 : Int32} {l3 : Int32} {l4 : Int32} {S : wd_S} {x : Int32 ⊕ String} {S' : wd_S}, fn_Maker_becomeCall_13 slf n l1 l2 l3 l4 S = some (x, S') → go_r tb_P L xs D 98 13 [(0, .ref 115), (1, .int l1), (2, .int l2), (3, .int l3), (4, .int l4)] [] (wd_k S) (wd_wi x, wd_k S') := by
  intro n
  induction n with
  | zero => intro l1 l2 l3 l4 S x S'  h; cases h
  | succ n ih =>
    intro l1 l2 l3 l4 S x S'  h
    rw [fn_Maker_becomeCall_13] at h
    refine bk_b (q := (16, [(0, .ref 115), (1, .int l1), (2, .int l2), (3, .int l3), (4, .int l4)], [.int (4 : Int32), .int l4])) tb_c_98_0 mx_98 2 rfl ?_
    by_cases g5 : l4 < (4 : Int32)
    · rw [if_pos g5] at h
      refine bk_jf tb_c_98_0 rfl (pc' := 19) rfl (t := 63) rfl (cm_ge_f g5) ?_
      refine bk_b (q := (22, [(0, .ref 115), (1, .int l1), (2, .int l2), (3, .int l3), (4, .int l4)], [.ref 115, .int l4])) tb_c_98_0 mx_98 2 rfl ?_
      refine bk_gm tb_c_98_0 rfl rfl (ci := 2) (k := 2) rfl rfl rfl ?_
      by_cases g35 : tp_t (S.2.2.1 115 2) = (0, 8)
      · rw [if_pos g35] at h
        refine bk_b (q := (26, [(0, .ref 115), (1, .int l1), (2, .int l2), (3, .int l3), (4, .int l4)], [.int l1, .ref (S.2.2.1 115 2), .int l4])) tb_c_98_0 mx_98 1 rfl ?_
        obtain ⟨x37, S36, c38, h⟩ := wd_cx h
        refine bk_kv tb_c_98_0 rfl rfl rfl rfl rfl (ci := 8) g35 rfl (ev_up (Nat.le_trans (Nat.le_of_ble_eq_true rfl) hD) (sn_Trees_parts g35 c38)) ?_
        by_cases g39 : l4 < x37
        · rw [if_pos g39] at h
          refine bk_jf tb_c_98_0 rfl (pc' := 32) rfl (t := 63) rfl (cm_ge_f g39) ?_
          refine bk_b (q := (33, [(0, .ref 115), (1, .int l1), (2, .int l2), (3, .int l3), (4, .int l4)], [.ref 115])) tb_c_98_0 mx_98 1 rfl ?_
          refine bk_gm tb_c_98_0 rfl rfl (ci := 2) (k := 4) rfl rfl rfl ?_
          by_cases g40 : tp_t (S36.2.2.1 115 4) = (0, 8)
          · rw [if_pos g40] at h
            refine bk_b (q := (39, [(0, .ref 115), (1, .int l1), (2, .int l2), (3, .int l3), (4, .int l4)], [.ref 115, .ref 115, .int l3, .ref (S36.2.2.1 115 4)])) tb_c_98_0 mx_98 3 rfl ?_
            refine bk_gm tb_c_98_0 rfl rfl (ci := 2) (k := 2) rfl rfl rfl ?_
            by_cases g41 : tp_t (S36.2.2.1 115 2) = (0, 8)
            · rw [if_pos g41] at h
              refine bk_b (q := (45, [(0, .ref 115), (1, .int l1), (2, .int l2), (3, .int l3), (4, .int l4)], [.int l4, .int l1, .ref (S36.2.2.1 115 2), .ref 115, .int l3, .ref (S36.2.2.1 115 4)])) tb_c_98_0 mx_98 2 rfl ?_
              obtain ⟨x43, S42, c44, h⟩ := wd_cx h
              refine bk_kv tb_c_98_0 rfl rfl rfl rfl rfl (ci := 8) g41 rfl (ev_up (Nat.le_trans (Nat.le_of_ble_eq_true rfl) hD) (sn_Trees_part g41 c44)) ?_
              refine bk_b (q := (51, [(0, .ref 115), (1, .int l1), (2, .int l2), (3, .int l3), (4, .int l4)], [.int (l2 + (1 : Int32)), .int x43, .ref 115, .int l3, .ref (S36.2.2.1 115 4)])) tb_c_98_0 mx_98 3 rfl ?_
              obtain ⟨x46o, S45, c47, h⟩ := wd_cx h
              rcases wd_ox h with ⟨x46, rfl, nx46⟩ | ⟨E48, rfl, nx46⟩
              · replace h := nx46
                refine bk_kv tb_c_98_0 rfl rfl rfl rfl rfl (ci := 2) rfl rfl (hs93 c47) ?_
                obtain ⟨S49, c51, h⟩ := wd_dx h
                refine bk_kv tb_c_98_0 rfl rfl rfl rfl rfl (ci := 8) g40 rfl (ev_up (Nat.le_trans (Nat.le_of_ble_eq_true rfl) hD) (sn_Trees_append g40 c51)) ?_
                refine bk_b (q := (13, [(4, .int (l4 + (1 : Int32))), (0, .ref 115), (1, .int l1), (2, .int l2), (3, .int l3)], [])) tb_c_98_0 mx_98 2 rfl ?_
                exact go_lv (ls_sc rfl rfl (ls_sc rfl rfl (ls_sc rfl rfl (ls_sc rfl rfl (ls_sc rfl rfl ls_nil))))) (ih h)
              · replace h := nx46
                cases h
                exact bk_kp tb_c_98_0 rfl rfl rfl rfl rfl (ci := 2) rfl rfl (hs93 c47) rfl rfl
            · rw [if_neg g41] at h; cases h
          · rw [if_neg g40] at h; cases h
        · rw [if_neg g39] at h
          refine bk_jt tb_c_98_0 rfl (pc' := 63) rfl (cm_ge_t g39) ?_
          exact go_lv (ls_sc rfl rfl (ls_sc rfl rfl (ls_sc rfl rfl ls_nil))) (sn_Maker_becomeCall_63 hD hs93 hs94 hs97 hs98 hs115 h)
      · rw [if_neg g35] at h; cases h
    · rw [if_neg g5] at h
      refine bk_jt tb_c_98_0 rfl (pc' := 63) rfl (cm_ge_t g5) ?_
      exact go_lv (ls_sc rfl rfl (ls_sc rfl rfl (ls_sc rfl rfl ls_nil))) (sn_Maker_becomeCall_63 hD hs93 hs94 hs97 hs98 hs115 h)
/-- Specialiser$Maker.becomeCall(II)I -/
noncomputable def fn_Maker_becomeCall (slf : Nat → Int32 → Int32 → wd_S → Option ((Int32 ⊕ String) × wd_S)) (p1 : Int32) (p2 : Int32) (S : wd_S) : Option ((Int32 ⊕ String) × wd_S) :=
  (if tp_t (S.2.2.1 115 4) = (0, 8) then
    (wd_c (fn_Trees_open (S.2.2.1 115 4) (5 : Int32) (0 : Int32) S) fun x3 S2 =>
    fn_Maker_becomeCall_13 slf wd_F p1 p2 x3 (0 : Int32) S2)
  else none)
set_option maxRecDepth 100000 in
theorem sn_Maker_becomeCall {L : Nat} {xs : Nat → Int32} {D : Nat} {slf : Nat → Int32 → Int32 → wd_S → Option ((Int32 ⊕ String) × wd_S)} (hD : 4 ≤ D) (hs93 : ∀ {a b : Int32} {S : wd_S} {x : Int32 ⊕ String} {S' : wd_S}, slf 93 a b S = some (x, S') → ev_r tb_P L xs D 93 [.ref 115, .int a, .int b] (wd_k S) (wd_wi x, wd_k S')) (hs94 : ∀ {a b : Int32} {S : wd_S} {x : Int32 ⊕ String} {S' : wd_S}, slf 94 a b S = some (x, S') → ev_r tb_P L xs D 94 [.ref 115, .int a, .int b] (wd_k S) (wd_wi x, wd_k S')) (hs97 : ∀ {a b : Int32} {S : wd_S} {x : Int32 ⊕ String} {S' : wd_S}, slf 97 a b S = some (x, S') → ev_r tb_P L xs D 97 [.ref 115, .int a, .int b] (wd_k S) (wd_wi x, wd_k S')) (hs98 : ∀ {a b : Int32} {S : wd_S} {x : Int32 ⊕ String} {S' : wd_S}, slf 98 a b S = some (x, S') → ev_r tb_P L xs D 98 [.ref 115, .int a, .int b] (wd_k S) (wd_wi x, wd_k S')) (hs115 : ∀ {a b : Int32} {S : wd_S} {x : Int32 ⊕ String} {S' : wd_S}, slf 115 a b S = some (x, S') → ev_r tb_P L xs D 115 [.ref 115, .int a, .int b] (wd_k S) (wd_wi x, wd_k S')) {p1 : Int32} {p2 : Int32} {S : wd_S} {x : Int32 ⊕ String} {S' : wd_S} (h : fn_Maker_becomeCall slf p1 p2 S = some (x, S')) : ev_r tb_P L xs (D + 1) 98 [.ref 115, .int p1, .int p2] (wd_k S) (wd_wi x, wd_k S') := by
  unfold fn_Maker_becomeCall at h
  refine ev_of (Nat.le_of_ble_eq_true rfl) ?_
  show go_r tb_P L xs D 98 0 [(0, .ref 115), (1, .int p1), (2, .int p2)] [] (wd_k S) (wd_wi x, wd_k S')
  refine bk_b (q := (1, [(0, .ref 115), (1, .int p1), (2, .int p2)], [.ref 115])) tb_c_98_0 mx_98 1 rfl ?_
  refine bk_gm tb_c_98_0 rfl rfl (ci := 2) (k := 4) rfl rfl rfl ?_
  by_cases g1 : tp_t (S.2.2.1 115 4) = (0, 8)
  · rw [if_pos g1] at h
    refine bk_b (q := (6, [(0, .ref 115), (1, .int p1), (2, .int p2)], [.int (0 : Int32), .int (5 : Int32), .ref (S.2.2.1 115 4)])) tb_c_98_0 mx_98 2 rfl ?_
    obtain ⟨x3, S2, c4, h⟩ := wd_cx h
    refine bk_kv tb_c_98_0 rfl rfl rfl rfl rfl (ci := 8) g1 rfl (ev_up (Nat.le_trans (Nat.le_of_ble_eq_true rfl) hD) (sn_Trees_open g1 c4)) ?_
    refine bk_b (q := (13, [(4, .int (0 : Int32)), (3, .int x3), (0, .ref 115), (1, .int p1), (2, .int p2)], [])) tb_c_98_0 mx_98 3 rfl ?_
    exact go_lv (ls_sc rfl rfl (ls_sc rfl rfl (ls_sc rfl rfl (ls_sc rfl rfl (ls_sc rfl rfl ls_nil))))) (sn_Maker_becomeCall_13 hD hs93 hs94 hs97 hs98 hs115 wd_F h)
  · rw [if_neg g1] at h; cases h
theorem mx_115 : mi_mx tb_P 115 = 6 := rfl
noncomputable def fn_Maker_becomeSign_93 (slf : Nat → Int32 → Int32 → wd_S → Option ((Int32 ⊕ String) × wd_S)) (l3 : Int32) (l4 : Int32) (l5 : Int32) (S : wd_S) : Option ((Int32 ⊕ String) × wd_S) :=
  (if tp_t (S.2.2.1 115 4) = (0, 8) then
    (wd_c (fn_Trees_join (S.2.2.1 115 4) l5 l3 l4 S) fun x27 S26 =>
    some (.inl x27, S26))
  else none)
set_option maxRecDepth 100000 in
theorem sn_Maker_becomeSign_93 {L : Nat} {xs : Nat → Int32} {D : Nat} {slf : Nat → Int32 → Int32 → wd_S → Option ((Int32 ⊕ String) × wd_S)} (hD : 4 ≤ D) (hs93 : ∀ {a b : Int32} {S : wd_S} {x : Int32 ⊕ String} {S' : wd_S}, slf 93 a b S = some (x, S') → ev_r tb_P L xs D 93 [.ref 115, .int a, .int b] (wd_k S) (wd_wi x, wd_k S')) (hs94 : ∀ {a b : Int32} {S : wd_S} {x : Int32 ⊕ String} {S' : wd_S}, slf 94 a b S = some (x, S') → ev_r tb_P L xs D 94 [.ref 115, .int a, .int b] (wd_k S) (wd_wi x, wd_k S')) (hs97 : ∀ {a b : Int32} {S : wd_S} {x : Int32 ⊕ String} {S' : wd_S}, slf 97 a b S = some (x, S') → ev_r tb_P L xs D 97 [.ref 115, .int a, .int b] (wd_k S) (wd_wi x, wd_k S')) (hs98 : ∀ {a b : Int32} {S : wd_S} {x : Int32 ⊕ String} {S' : wd_S}, slf 98 a b S = some (x, S') → ev_r tb_P L xs D 98 [.ref 115, .int a, .int b] (wd_k S) (wd_wi x, wd_k S')) (hs115 : ∀ {a b : Int32} {S : wd_S} {x : Int32 ⊕ String} {S' : wd_S}, slf 115 a b S = some (x, S') → ev_r tb_P L xs D 115 [.ref 115, .int a, .int b] (wd_k S) (wd_wi x, wd_k S')) {l3 : Int32} {l4 : Int32} {l5 : Int32} {S : wd_S} {x : Int32 ⊕ String} {S' : wd_S} (h : fn_Maker_becomeSign_93 slf l3 l4 l5 S = some (x, S')) : go_r tb_P L xs D 115 93 [(0, .ref 115), (3, .int l3), (4, .int l4), (5, .int l5)] [] (wd_k S) (wd_wi x, wd_k S') := by
  unfold fn_Maker_becomeSign_93 at h
  refine bk_b (q := (94, [(0, .ref 115), (3, .int l3), (4, .int l4), (5, .int l5)], [.ref 115])) tb_c_115_1 mx_115 1 rfl ?_
  refine bk_gm tb_c_115_1 rfl rfl (ci := 2) (k := 4) rfl rfl rfl ?_
  by_cases g25 : tp_t (S.2.2.1 115 4) = (0, 8)
  · rw [if_pos g25] at h
    refine bk_b (q := (102, [(0, .ref 115), (3, .int l3), (4, .int l4), (5, .int l5)], [.int l4, .int l3, .int l5, .ref (S.2.2.1 115 4)])) tb_c_115_1 mx_115 3 rfl ?_
    obtain ⟨x27, S26, c28, h⟩ := wd_cx h
    refine bk_kv tb_c_115_1 rfl rfl rfl rfl rfl (ci := 8) g25 rfl (ev_up (Nat.le_trans (Nat.le_of_ble_eq_true rfl) hD) (sn_Trees_join g25 c28)) ?_
    cases h
    exact bk_t tb_c_115_1 rfl rfl
  · rw [if_neg g25] at h; cases h
/-- Specialiser$Maker.becomeSign(II)I -/
noncomputable def fn_Maker_becomeSign (slf : Nat → Int32 → Int32 → wd_S → Option ((Int32 ⊕ String) × wd_S)) (p1 : Int32) (p2 : Int32) (S : wd_S) : Option ((Int32 ⊕ String) × wd_S) :=
  (if tp_t (S.2.2.1 115 2) = (0, 8) then
    (wd_c (fn_Trees_part (S.2.2.1 115 2) p1 (0 : Int32) S) fun x3 S2 =>
    (wd_c (slf 93 x3 (p2 + (1 : Int32)) S2) fun x6o S5 => wd_o x6o (fun x6 =>
    (if tp_t (S5.2.2.1 115 2) = (0, 8) then
      (wd_c (fn_Trees_part (S5.2.2.1 115 2) p1 (1 : Int32) S5) fun x11 S10 =>
      (wd_c (slf 93 x11 (p2 + (1 : Int32)) S10) fun x14o S13 => wd_o x14o (fun x14 =>
      (if tp_t (S13.2.2.1 115 2) = (0, 8) then
        (wd_c (fn_Trees_kind (S13.2.2.1 115 2) p1 S13) fun x19 S18 =>
        (wd_c (fn_Maker_isNumber x6 S18) fun x22 S21 =>
        (if x22 = 0 then
          fn_Maker_becomeSign_93 slf x6 x14 x19 S21
        else
          (wd_c (fn_Maker_isNumber x14 S21) fun x30 S29 =>
          (if x30 = 0 then
            fn_Maker_becomeSign_93 slf x6 x14 x19 S29
          else
            (if tp_t (S29.2.2.1 115 4) = (0, 8) then
              (if tp_t (S29.2.2.1 115 4) = (0, 8) then
                (wd_c (fn_Trees_value (S29.2.2.1 115 4) x6 S29) fun x36 S35 =>
                (if tp_t (S35.2.2.1 115 4) = (0, 8) then
                  (wd_c (fn_Trees_value (S35.2.2.1 115 4) x14 S35) fun x40 S39 =>
                  (wd_c (fn_Sp_signed x19 x36 x40 S39) fun x43 S42 =>
                  (wd_c (fn_Trees_open (S29.2.2.1 115 4) (1 : Int32) x43 S42) fun x46 S45 =>
                  some (.inl x46, S45))))
                else none))
              else none)
            else none))))))
      else none)) (fun E16 => some (.inr E16, S13))))
    else none)) (fun E8 => some (.inr E8, S5))))
  else none)
set_option maxRecDepth 100000 in
theorem sn_Maker_becomeSign {L : Nat} {xs : Nat → Int32} {D : Nat} {slf : Nat → Int32 → Int32 → wd_S → Option ((Int32 ⊕ String) × wd_S)} (hD : 4 ≤ D) (hs93 : ∀ {a b : Int32} {S : wd_S} {x : Int32 ⊕ String} {S' : wd_S}, slf 93 a b S = some (x, S') → ev_r tb_P L xs D 93 [.ref 115, .int a, .int b] (wd_k S) (wd_wi x, wd_k S')) (hs94 : ∀ {a b : Int32} {S : wd_S} {x : Int32 ⊕ String} {S' : wd_S}, slf 94 a b S = some (x, S') → ev_r tb_P L xs D 94 [.ref 115, .int a, .int b] (wd_k S) (wd_wi x, wd_k S')) (hs97 : ∀ {a b : Int32} {S : wd_S} {x : Int32 ⊕ String} {S' : wd_S}, slf 97 a b S = some (x, S') → ev_r tb_P L xs D 97 [.ref 115, .int a, .int b] (wd_k S) (wd_wi x, wd_k S')) (hs98 : ∀ {a b : Int32} {S : wd_S} {x : Int32 ⊕ String} {S' : wd_S}, slf 98 a b S = some (x, S') → ev_r tb_P L xs D 98 [.ref 115, .int a, .int b] (wd_k S) (wd_wi x, wd_k S')) (hs115 : ∀ {a b : Int32} {S : wd_S} {x : Int32 ⊕ String} {S' : wd_S}, slf 115 a b S = some (x, S') → ev_r tb_P L xs D 115 [.ref 115, .int a, .int b] (wd_k S) (wd_wi x, wd_k S')) {p1 : Int32} {p2 : Int32} {S : wd_S} {x : Int32 ⊕ String} {S' : wd_S} (h : fn_Maker_becomeSign slf p1 p2 S = some (x, S')) : ev_r tb_P L xs (D + 1) 115 [.ref 115, .int p1, .int p2] (wd_k S) (wd_wi x, wd_k S') := by
  unfold fn_Maker_becomeSign at h
  refine ev_of (Nat.le_of_ble_eq_true rfl) ?_
  show go_r tb_P L xs D 115 0 [(0, .ref 115), (1, .int p1), (2, .int p2)] [] (wd_k S) (wd_wi x, wd_k S')
  refine bk_b (q := (2, [(0, .ref 115), (1, .int p1), (2, .int p2)], [.ref 115, .ref 115])) tb_c_115_0 mx_115 2 rfl ?_
  refine bk_gm tb_c_115_0 rfl rfl (ci := 2) (k := 2) rfl rfl rfl ?_
  by_cases g1 : tp_t (S.2.2.1 115 2) = (0, 8)
  · rw [if_pos g1] at h
    refine bk_b (q := (7, [(0, .ref 115), (1, .int p1), (2, .int p2)], [.int (0 : Int32), .int p1, .ref (S.2.2.1 115 2), .ref 115])) tb_c_115_0 mx_115 2 rfl ?_
    obtain ⟨x3, S2, c4, h⟩ := wd_cx h
    refine bk_kv tb_c_115_0 rfl rfl rfl rfl rfl (ci := 8) g1 rfl (ev_up (Nat.le_trans (Nat.le_of_ble_eq_true rfl) hD) (sn_Trees_part g1 c4)) ?_
    refine bk_b (q := (13, [(0, .ref 115), (1, .int p1), (2, .int p2)], [.int (p2 + (1 : Int32)), .int x3, .ref 115])) tb_c_115_0 mx_115 3 rfl ?_
    obtain ⟨x6o, S5, c7, h⟩ := wd_cx h
    rcases wd_ox h with ⟨x6, rfl, nx6⟩ | ⟨E8, rfl, nx6⟩
    · replace h := nx6
      refine bk_kv tb_c_115_0 rfl rfl rfl rfl rfl (ci := 2) rfl rfl (hs93 c7) ?_
      refine bk_b (q := (19, [(3, .int x6), (0, .ref 115), (1, .int p1), (2, .int p2)], [.ref 115, .ref 115])) tb_c_115_0 mx_115 3 rfl ?_
      refine bk_gm tb_c_115_0 rfl rfl (ci := 2) (k := 2) rfl rfl rfl ?_
      by_cases g9 : tp_t (S5.2.2.1 115 2) = (0, 8)
      · rw [if_pos g9] at h
        refine bk_b (q := (24, [(3, .int x6), (0, .ref 115), (1, .int p1), (2, .int p2)], [.int (1 : Int32), .int p1, .ref (S5.2.2.1 115 2), .ref 115])) tb_c_115_0 mx_115 2 rfl ?_
        obtain ⟨x11, S10, c12, h⟩ := wd_cx h
        refine bk_kv tb_c_115_0 rfl rfl rfl rfl rfl (ci := 8) g9 rfl (ev_up (Nat.le_trans (Nat.le_of_ble_eq_true rfl) hD) (sn_Trees_part g9 c12)) ?_
        refine bk_b (q := (30, [(3, .int x6), (0, .ref 115), (1, .int p1), (2, .int p2)], [.int (p2 + (1 : Int32)), .int x11, .ref 115])) tb_c_115_0 mx_115 3 rfl ?_
        obtain ⟨x14o, S13, c15, h⟩ := wd_cx h
        rcases wd_ox h with ⟨x14, rfl, nx14⟩ | ⟨E16, rfl, nx14⟩
        · replace h := nx14
          refine bk_kv tb_c_115_0 rfl rfl rfl rfl rfl (ci := 2) rfl rfl (hs93 c15) ?_
          refine bk_b (q := (36, [(4, .int x14), (3, .int x6), (0, .ref 115), (1, .int p1), (2, .int p2)], [.ref 115])) tb_c_115_0 mx_115 2 rfl ?_
          refine bk_gm tb_c_115_0 rfl rfl (ci := 2) (k := 2) rfl rfl rfl ?_
          by_cases g17 : tp_t (S13.2.2.1 115 2) = (0, 8)
          · rw [if_pos g17] at h
            refine bk_b (q := (40, [(4, .int x14), (3, .int x6), (0, .ref 115), (1, .int p1), (2, .int p2)], [.int p1, .ref (S13.2.2.1 115 2)])) tb_c_115_0 mx_115 1 rfl ?_
            obtain ⟨x19, S18, c20, h⟩ := wd_cx h
            refine bk_kv tb_c_115_0 rfl rfl rfl rfl rfl (ci := 8) g17 rfl (ev_up (Nat.le_trans (Nat.le_of_ble_eq_true rfl) hD) (sn_Trees_kind g17 c20)) ?_
            refine bk_b (q := (47, [(5, .int x19), (4, .int x14), (3, .int x6), (0, .ref 115), (1, .int p1), (2, .int p2)], [.int x6, .ref 115])) tb_c_115_0 mx_115 3 rfl ?_
            obtain ⟨x22, S21, c23, h⟩ := wd_cx h
            refine bk_kv tb_c_115_0 rfl rfl rfl rfl rfl (ci := 2) rfl rfl (ev_up (Nat.le_trans (Nat.le_of_ble_eq_true rfl) hD) (sn_Maker_isNumber c23)) ?_
            by_cases g24 : x22 = 0
            · rw [if_pos g24] at h
              refine bk_zt tb_c_115_0 rfl (pc' := 93) rfl (cm_eq_t g24) ?_
              exact go_lv (ls_sc rfl rfl (ls_sc rfl rfl (ls_sc rfl rfl (ls_sc rfl rfl ls_nil)))) (sn_Maker_becomeSign_93 hD hs93 hs94 hs97 hs98 hs115 h)
            · rw [if_neg g24] at h
              refine bk_zf tb_c_115_0 rfl (pc' := 53) rfl (t := 93) rfl (cm_eq_f g24) ?_
              refine bk_b (q := (56, [(5, .int x19), (4, .int x14), (3, .int x6), (0, .ref 115), (1, .int p1), (2, .int p2)], [.int x14, .ref 115])) tb_c_115_0 mx_115 2 rfl ?_
              obtain ⟨x30, S29, c31, h⟩ := wd_cx h
              refine bk_kv tb_c_115_0 rfl rfl rfl rfl rfl (ci := 2) rfl rfl (ev_up (Nat.le_trans (Nat.le_of_ble_eq_true rfl) hD) (sn_Maker_isNumber c31)) ?_
              by_cases g32 : x30 = 0
              · rw [if_pos g32] at h
                refine bk_zt tb_c_115_0 rfl (pc' := 93) rfl (cm_eq_t g32) ?_
                exact go_lv (ls_sc rfl rfl (ls_sc rfl rfl (ls_sc rfl rfl (ls_sc rfl rfl ls_nil)))) (sn_Maker_becomeSign_93 hD hs93 hs94 hs97 hs98 hs115 h)
              · rw [if_neg g32] at h
                refine bk_zf tb_c_115_0 rfl (pc' := 62) rfl (t := 93) rfl (cm_eq_f g32) ?_
                refine bk_b (q := (63, [(5, .int x19), (4, .int x14), (3, .int x6), (0, .ref 115), (1, .int p1), (2, .int p2)], [.ref 115])) tb_c_115_0 mx_115 1 rfl ?_
                refine bk_gm tb_c_115_0 rfl rfl (ci := 2) (k := 4) rfl rfl rfl ?_
                by_cases g33 : tp_t (S29.2.2.1 115 4) = (0, 8)
                · rw [if_pos g33] at h
                  refine bk_b (q := (70, [(5, .int x19), (4, .int x14), (3, .int x6), (0, .ref 115), (1, .int p1), (2, .int p2)], [.ref 115, .int x19, .int (1 : Int32), .ref (S29.2.2.1 115 4)])) tb_c_115_0 mx_115 3 rfl ?_
                  refine bk_gm tb_c_115_1 rfl rfl (ci := 2) (k := 4) rfl rfl rfl ?_
                  by_cases g34 : tp_t (S29.2.2.1 115 4) = (0, 8)
                  · rw [if_pos g34] at h
                    refine bk_b (q := (74, [(5, .int x19), (4, .int x14), (3, .int x6), (0, .ref 115), (1, .int p1), (2, .int p2)], [.int x6, .ref (S29.2.2.1 115 4), .int x19, .int (1 : Int32), .ref (S29.2.2.1 115 4)])) tb_c_115_1 mx_115 1 rfl ?_
                    obtain ⟨x36, S35, c37, h⟩ := wd_cx h
                    refine bk_kv tb_c_115_1 rfl rfl rfl rfl rfl (ci := 8) g34 rfl (ev_up (Nat.le_trans (Nat.le_of_ble_eq_true rfl) hD) (sn_Trees_value g34 c37)) ?_
                    refine bk_b (q := (78, [(5, .int x19), (4, .int x14), (3, .int x6), (0, .ref 115), (1, .int p1), (2, .int p2)], [.ref 115, .int x36, .int x19, .int (1 : Int32), .ref (S29.2.2.1 115 4)])) tb_c_115_1 mx_115 1 rfl ?_
                    refine bk_gm tb_c_115_1 rfl rfl (ci := 2) (k := 4) rfl rfl rfl ?_
                    by_cases g38 : tp_t (S35.2.2.1 115 4) = (0, 8)
                    · rw [if_pos g38] at h
                      refine bk_b (q := (83, [(5, .int x19), (4, .int x14), (3, .int x6), (0, .ref 115), (1, .int p1), (2, .int p2)], [.int x14, .ref (S35.2.2.1 115 4), .int x36, .int x19, .int (1 : Int32), .ref (S29.2.2.1 115 4)])) tb_c_115_1 mx_115 1 rfl ?_
                      obtain ⟨x40, S39, c41, h⟩ := wd_cx h
                      refine bk_kv tb_c_115_1 rfl rfl rfl rfl rfl (ci := 8) g38 rfl (ev_up (Nat.le_trans (Nat.le_of_ble_eq_true rfl) hD) (sn_Trees_value g38 c41)) ?_
                      obtain ⟨x43, S42, c44, h⟩ := wd_cx h
                      refine bk_ks tb_c_115_1 rfl rfl rfl (by decide) rfl rfl (ev_up (Nat.le_trans (Nat.le_of_ble_eq_true rfl) hD) (sn_Sp_signed c44)) ?_
                      obtain ⟨x46, S45, c47, h⟩ := wd_cx h
                      refine bk_kv tb_c_115_1 rfl rfl rfl rfl rfl (ci := 8) g33 rfl (ev_up (Nat.le_trans (Nat.le_of_ble_eq_true rfl) hD) (sn_Trees_open g33 c47)) ?_
                      cases h
                      exact bk_t tb_c_115_1 rfl rfl
                    · rw [if_neg g38] at h; cases h
                  · rw [if_neg g34] at h; cases h
                · rw [if_neg g33] at h; cases h
          · rw [if_neg g17] at h; cases h
        · replace h := nx14
          cases h
          exact bk_kp tb_c_115_0 rfl rfl rfl rfl rfl (ci := 2) rfl rfl (hs93 c15) rfl rfl
      · rw [if_neg g9] at h; cases h
    · replace h := nx6
      cases h
      exact bk_kp tb_c_115_0 rfl rfl rfl rfl rfl (ci := 2) rfl rfl (hs93 c7) rfl rfl
  · rw [if_neg g1] at h; cases h
