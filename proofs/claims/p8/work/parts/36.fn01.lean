/-! Methods as functions: printed by wip/whole/gen_fn.py. -/
theorem mx_17 : mi_mx tb_P 17 = 3 := rfl
noncomputable def fn_Tokens_scanOne_21 (S : wd_S) : Option (Int32 × wd_S) :=
  some ((1 : Int32), S)
set_option maxRecDepth 100000 in
theorem sn_Tokens_scanOne_21 {L : Nat} {xs : Nat → Int32} {S : wd_S} {x : Int32} {S' : wd_S} (h : fn_Tokens_scanOne_21  S = some (x, S')) : go_r tb_P L xs 3 17 21 [] [] (wd_k S) (.inl (some (.int x)), wd_k S') := by
  unfold fn_Tokens_scanOne_21 at h
  refine bk_b (q := (22, [], [.int (1 : Int32)])) tb_c_17_0 mx_17 1 rfl ?_
  cases h
  exact bk_t tb_c_17_0 rfl rfl
noncomputable def fn_Tokens_scanOne_37 (l1 : Int32) (S : wd_S) : Option (Int32 × wd_S) :=
  (wd_c (fn_Tokens_scanRow l1 S) fun x11 S10 =>
  some (x11, S10))
set_option maxRecDepth 100000 in
theorem sn_Tokens_scanOne_37 {L : Nat} {xs : Nat → Int32} {l1 : Int32} {S : wd_S} {x : Int32} {S' : wd_S} (h : fn_Tokens_scanOne_37 l1 S = some (x, S')) : go_r tb_P L xs 3 17 37 [(0, .ref 4), (1, .int l1)] [] (wd_k S) (.inl (some (.int x)), wd_k S') := by
  unfold fn_Tokens_scanOne_37 at h
  refine bk_b (q := (39, [(0, .ref 4), (1, .int l1)], [.int l1, .ref 4])) tb_c_17_0 mx_17 2 rfl ?_
  obtain ⟨x11, S10, c12, h⟩ := wd_cx h
  refine bk_kv tb_c_17_0 rfl rfl rfl rfl rfl (ci := 7) rfl rfl (ev_up (Nat.le_of_ble_eq_true rfl) (sn_Tokens_scanRow c12)) ?_
  cases h
  exact bk_t tb_c_17_0 rfl rfl
noncomputable def fn_Tokens_scanOne_83 (l2 : Int32) (S : wd_S) : Option (Int32 × wd_S) :=
  (wd_c (fn_Tokens_signKind l2 S) fun x19 S18 =>
  (wd_c (fn_Tokens_keep x19 (0 : Int64) (1 : Int32) S18) fun x22 S21 =>
  some (x22, S21)))
set_option maxRecDepth 100000 in
theorem sn_Tokens_scanOne_83 {L : Nat} {xs : Nat → Int32} {l2 : Int32} {S : wd_S} {x : Int32} {S' : wd_S} (h : fn_Tokens_scanOne_83 l2 S = some (x, S')) : go_r tb_P L xs 3 17 83 [(0, .ref 4), (2, .int l2)] [] (wd_k S) (.inl (some (.int x)), wd_k S') := by
  unfold fn_Tokens_scanOne_83 at h
  refine bk_b (q := (85, [(0, .ref 4), (2, .int l2)], [.int l2, .ref 4])) tb_c_17_1 mx_17 2 rfl ?_
  obtain ⟨x19, S18, c20, h⟩ := wd_cx h
  refine bk_ks tb_c_17_1 rfl rfl rfl (by decide) rfl rfl (ev_up (Nat.le_of_ble_eq_true rfl) (sn_Tokens_signKind c20)) ?_
  refine bk_b (q := (90, [(0, .ref 4), (2, .int l2)], [.int (1 : Int32), .long (0 : Int64), .int x19, .ref 4])) tb_c_17_1 mx_17 2 rfl ?_
  obtain ⟨x22, S21, c23, h⟩ := wd_cx h
  refine bk_kv tb_c_17_1 rfl rfl rfl rfl rfl (ci := 7) rfl rfl (ev_up (Nat.le_of_ble_eq_true rfl) (sn_Tokens_keep c23)) ?_
  cases h
  exact bk_t tb_c_17_1 rfl rfl
/-- Specialiser$Tokens.scanOne(I)I -/
noncomputable def fn_Tokens_scanOne (p1 : Int32) (S : wd_S) : Option (Int32 × wd_S) :=
  (wd_c (fn_Row_at 2 p1 S) fun x2 S1 =>
  (if x2 = (32 : Int32) then
    fn_Tokens_scanOne_21  S1
  else
    (if x2 = (10 : Int32) then
      fn_Tokens_scanOne_21  S1
    else
      (wd_c (fn_Tokens_isLetter x2 S1) fun x7 S6 =>
      (if x7 = 0 then
        (wd_c (fn_Tokens_isDigit x2 S6) fun x14 S13 =>
        (if x14 = 0 then
          (if x2 = (61 : Int32) then
            (if (p1 + (1 : Int32)) < (S13.1 4 4) then
              (wd_c (fn_Row_at 2 (p1 + (1 : Int32)) S13) fun x26 S25 =>
              (if x26 = (61 : Int32) then
                (wd_c (fn_Tokens_keep (10 : Int32) (0 : Int64) (2 : Int32) S25) fun x30 S29 =>
                some (x30, S29))
              else
                fn_Tokens_scanOne_83 x2 S25))
            else
              fn_Tokens_scanOne_83 x2 S13)
          else
            fn_Tokens_scanOne_83 x2 S13)
        else
          fn_Tokens_scanOne_37 p1 S13))
      else
        fn_Tokens_scanOne_37 p1 S6)))))
set_option maxRecDepth 100000 in
theorem sn_Tokens_scanOne {L : Nat} {xs : Nat → Int32} {p1 : Int32} {S : wd_S} {x : Int32} {S' : wd_S} (h : fn_Tokens_scanOne p1 S = some (x, S')) : ev_r tb_P L xs (3 + 1) 17 [.ref 4, .int p1] (wd_k S) (.inl (some (.int x)), wd_k S') := by
  unfold fn_Tokens_scanOne at h
  refine ev_of (Nat.le_of_ble_eq_true rfl) ?_
  show go_r tb_P L xs 3 17 0 [(0, .ref 4), (1, .int p1)] [] (wd_k S) (.inl (some (.int x)), wd_k S')
  refine bk_b (q := (1, [(0, .ref 4), (1, .int p1)], [.ref 4])) tb_c_17_0 mx_17 1 rfl ?_
  refine bk_gc tb_c_17_0 rfl rfl (ci := 7) (k := 0) rfl rfl rfl ?_
  refine bk_b (q := (5, [(0, .ref 4), (1, .int p1)], [.int p1, .ref 2])) tb_c_17_0 mx_17 1 rfl ?_
  obtain ⟨x2, S1, c3, h⟩ := wd_cx h
  refine bk_kv tb_c_17_0 rfl rfl rfl rfl rfl (ci := 5) rfl rfl (ev_up (Nat.le_of_ble_eq_true rfl) (sn_Row_at rfl c3)) ?_
  refine bk_b (q := (12, [(2, .int x2), (0, .ref 4), (1, .int p1)], [.int (32 : Int32), .int x2])) tb_c_17_0 mx_17 3 rfl ?_
  by_cases g4 : x2 = (32 : Int32)
  · rw [if_pos g4] at h
    refine bk_jt tb_c_17_0 rfl (pc' := 21) rfl (cm_eq_t g4) ?_
    exact go_lv ls_nil (sn_Tokens_scanOne_21 h)
  · rw [if_neg g4] at h
    refine bk_jf tb_c_17_0 rfl (pc' := 15) rfl (t := 21) rfl (cm_eq_f g4) ?_
    refine bk_b (q := (18, [(2, .int x2), (0, .ref 4), (1, .int p1)], [.int (10 : Int32), .int x2])) tb_c_17_0 mx_17 2 rfl ?_
    by_cases g5 : x2 = (10 : Int32)
    · rw [if_pos g5] at h
      refine bk_jf tb_c_17_0 rfl (pc' := 21) rfl (t := 23) rfl (cm_ne_f g5) ?_
      exact go_lv ls_nil (sn_Tokens_scanOne_21 h)
    · rw [if_neg g5] at h
      refine bk_jt tb_c_17_0 rfl (pc' := 23) rfl (cm_ne_t g5) ?_
      refine bk_b (q := (24, [(2, .int x2), (0, .ref 4), (1, .int p1)], [.int x2])) tb_c_17_0 mx_17 1 rfl ?_
      obtain ⟨x7, S6, c8, h⟩ := wd_cx h
      refine bk_ks tb_c_17_0 rfl rfl rfl (by decide) rfl rfl (ev_up (Nat.le_of_ble_eq_true rfl) (sn_Tokens_isLetter c8)) ?_
      by_cases g9 : x7 = 0
      · rw [if_pos g9] at h
        refine bk_zf tb_c_17_0 rfl (pc' := 30) rfl (t := 37) rfl (cm_ne_f g9) ?_
        refine bk_b (q := (31, [(2, .int x2), (0, .ref 4), (1, .int p1)], [.int x2])) tb_c_17_0 mx_17 1 rfl ?_
        obtain ⟨x14, S13, c15, h⟩ := wd_cx h
        refine bk_ks tb_c_17_0 rfl rfl rfl (by decide) rfl rfl (ev_up (Nat.le_of_ble_eq_true rfl) (sn_Tokens_isDigit c15)) ?_
        by_cases g16 : x14 = 0
        · rw [if_pos g16] at h
          refine bk_zt tb_c_17_0 rfl (pc' := 43) rfl (cm_eq_t g16) ?_
          refine bk_b (q := (46, [(2, .int x2), (0, .ref 4), (1, .int p1)], [.int (61 : Int32), .int x2])) tb_c_17_0 mx_17 2 rfl ?_
          by_cases g17 : x2 = (61 : Int32)
          · rw [if_pos g17] at h
            refine bk_jf tb_c_17_0 rfl (pc' := 49) rfl (t := 83) rfl (cm_ne_f g17) ?_
            refine bk_b (q := (53, [(2, .int x2), (0, .ref 4), (1, .int p1)], [.ref 4, .int (p1 + (1 : Int32))])) tb_c_17_0 mx_17 4 rfl ?_
            refine bk_gi tb_c_17_0 rfl rfl (ci := 7) (k := 4) rfl rfl rfl ?_
            by_cases g24 : (p1 + (1 : Int32)) < (S13.1 4 4)
            · rw [if_pos g24] at h
              refine bk_jf tb_c_17_0 rfl (pc' := 59) rfl (t := 83) rfl (cm_ge_f g24) ?_
              refine bk_b (q := (60, [(2, .int x2), (0, .ref 4), (1, .int p1)], [.ref 4])) tb_c_17_0 mx_17 1 rfl ?_
              refine bk_gc tb_c_17_0 rfl rfl (ci := 7) (k := 0) rfl rfl rfl ?_
              refine bk_b (q := (66, [(2, .int x2), (0, .ref 4), (1, .int p1)], [.int (p1 + (1 : Int32)), .ref 2])) tb_c_17_0 mx_17 3 rfl ?_
              obtain ⟨x26, S25, c27, h⟩ := wd_cx h
              refine bk_kv tb_c_17_0 rfl rfl rfl rfl rfl (ci := 5) rfl rfl (ev_up (Nat.le_of_ble_eq_true rfl) (sn_Row_at rfl c27)) ?_
              refine bk_b (q := (71, [(2, .int x2), (0, .ref 4), (1, .int p1)], [.int (61 : Int32), .int x26])) tb_c_17_0 mx_17 1 rfl ?_
              by_cases g28 : x26 = (61 : Int32)
              · rw [if_pos g28] at h
                refine bk_jf tb_c_17_0 rfl (pc' := 74) rfl (t := 83) rfl (cm_ne_f g28) ?_
                refine bk_b (q := (79, [(2, .int x2), (0, .ref 4), (1, .int p1)], [.int (2 : Int32), .long (0 : Int64), .int (10 : Int32), .ref 4])) tb_c_17_1 mx_17 4 rfl ?_
                obtain ⟨x30, S29, c31, h⟩ := wd_cx h
                refine bk_kv tb_c_17_1 rfl rfl rfl rfl rfl (ci := 7) rfl rfl (ev_up (Nat.le_of_ble_eq_true rfl) (sn_Tokens_keep c31)) ?_
                cases h
                exact bk_t tb_c_17_1 rfl rfl
              · rw [if_neg g28] at h
                refine bk_jt tb_c_17_0 rfl (pc' := 83) rfl (cm_ne_t g28) ?_
                exact go_lv (ls_sc rfl rfl (ls_sc rfl rfl ls_nil)) (sn_Tokens_scanOne_83 h)
            · rw [if_neg g24] at h
              refine bk_jt tb_c_17_0 rfl (pc' := 83) rfl (cm_ge_t g24) ?_
              exact go_lv (ls_sc rfl rfl (ls_sc rfl rfl ls_nil)) (sn_Tokens_scanOne_83 h)
          · rw [if_neg g17] at h
            refine bk_jt tb_c_17_0 rfl (pc' := 83) rfl (cm_ne_t g17) ?_
            exact go_lv (ls_sc rfl rfl (ls_sc rfl rfl ls_nil)) (sn_Tokens_scanOne_83 h)
        · rw [if_neg g16] at h
          refine bk_zf tb_c_17_0 rfl (pc' := 37) rfl (t := 43) rfl (cm_eq_f g16) ?_
          exact go_lv (ls_sc rfl rfl (ls_sc rfl rfl ls_nil)) (sn_Tokens_scanOne_37 h)
      · rw [if_neg g9] at h
        refine bk_zt tb_c_17_0 rfl (pc' := 37) rfl (cm_ne_t g9) ?_
        exact go_lv (ls_sc rfl rfl (ls_sc rfl rfl ls_nil)) (sn_Tokens_scanOne_37 h)
theorem mx_26 : mi_mx tb_P 26 = 2 := rfl
noncomputable def fn_Math_max_10 (s0 : Int32) (S : wd_S) : Option (Int32 × wd_S) :=
  some (s0, S)
set_option maxRecDepth 100000 in
theorem sn_Math_max_10 {L : Nat} {xs : Nat → Int32} {s0 : Int32} {S : wd_S} {x : Int32} {S' : wd_S} (h : fn_Math_max_10 s0 S = some (x, S')) : go_r tb_P L xs 0 26 10 [] [.int s0] (wd_k S) (.inl (some (.int x)), wd_k S') := by
  unfold fn_Math_max_10 at h
  cases h
  exact bk_t tb_c_26_0 rfl rfl
/-- java/lang/Math.max(II)I -/
noncomputable def fn_Math_max (p0 : Int32) (p1 : Int32) (S : wd_S) : Option (Int32 × wd_S) :=
  (if p0 < p1 then
    fn_Math_max_10 p1 S
  else
    fn_Math_max_10 p0 S)
set_option maxRecDepth 100000 in
theorem sn_Math_max {L : Nat} {xs : Nat → Int32} {p0 : Int32} {p1 : Int32} {S : wd_S} {x : Int32} {S' : wd_S} (h : fn_Math_max p0 p1 S = some (x, S')) : ev_r tb_P L xs (0 + 1) 26 [.int p0, .int p1] (wd_k S) (.inl (some (.int x)), wd_k S') := by
  unfold fn_Math_max at h
  refine ev_of (Nat.le_of_ble_eq_true rfl) ?_
  show go_r tb_P L xs 0 26 0 [(0, .int p0), (1, .int p1)] [] (wd_k S) (.inl (some (.int x)), wd_k S')
  refine bk_b (q := (2, [(0, .int p0), (1, .int p1)], [.int p1, .int p0])) tb_c_26_0 mx_26 2 rfl ?_
  by_cases g1 : p0 < p1
  · rw [if_pos g1] at h
    refine bk_jt tb_c_26_0 rfl (pc' := 9) rfl (cm_lt_t g1) ?_
    refine bk_b (q := (10, [(0, .int p0), (1, .int p1)], [.int p1])) tb_c_26_0 mx_26 1 rfl ?_
    exact go_lv ls_nil (sn_Math_max_10 h)
  · rw [if_neg g1] at h
    refine bk_jf tb_c_26_0 rfl (pc' := 5) rfl (t := 9) rfl (cm_lt_f g1) ?_
    refine bk_b (q := (10, [(0, .int p0), (1, .int p1)], [.int p0])) tb_c_26_0 mx_26 2 rfl ?_
    exact go_lv ls_nil (sn_Math_max_10 h)
theorem mx_15 : mi_mx tb_P 15 = 3 := rfl
noncomputable def fn_Tokens_scan_57 (S : wd_S) : Option wd_S :=
  some S
set_option maxRecDepth 100000 in
theorem sn_Tokens_scan_57 {L : Nat} {xs : Nat → Int32} {S : wd_S} {S' : wd_S} (h : fn_Tokens_scan_57  S = some S') : go_r tb_P L xs 4 15 57 [] [] (wd_k S) (.inl none, wd_k S') := by
  unfold fn_Tokens_scan_57 at h
  cases h
  exact bk_t tb_c_15_0 rfl rfl
noncomputable def fn_Tokens_scan_12 : Nat → Int32 → wd_S → Option wd_S
  | 0, _, _ => none
  | n + 1, l2, S =>
    (if l2 < (S.1 4 4) then
      (if (S.1 4 5) < (1501 : Int32) then
        (wd_d (fn_Row_put 7 (S.1 4 5) l2 S) fun S5 =>
        (wd_c (fn_Tokens_scanOne l2 S5) fun x9 S8 =>
        (wd_c (fn_Math_max (1 : Int32) x9 S8) fun x12 S11 =>
        fn_Tokens_scan_12 n (l2 + x12) S11)))
      else
        fn_Tokens_scan_57  S)
    else
      fn_Tokens_scan_57  S)
set_option maxRecDepth 100000 in
theorem sn_Tokens_scan_12 {L : Nat} {xs : Nat → Int32} : ∀ (n : Nat) {l2 : Int32} {S : wd_S} {S' : wd_S}, fn_Tokens_scan_12 n l2 S = some S' → go_r tb_P L xs 4 15 12 [(0, .ref 4), (2, .int l2)] [] (wd_k S) (.inl none, wd_k S') := by
  intro n
  induction n with
  | zero => intro l2 S S'  h; cases h
  | succ n ih =>
    intro l2 S S'  h
    rw [fn_Tokens_scan_12] at h
    refine bk_b (q := (14, [(0, .ref 4), (2, .int l2)], [.ref 4, .int l2])) tb_c_15_0 mx_15 2 rfl ?_
    refine bk_gi tb_c_15_0 rfl rfl (ci := 7) (k := 4) rfl rfl rfl ?_
    by_cases g3 : l2 < (S.1 4 4)
    · rw [if_pos g3] at h
      refine bk_jf tb_c_15_0 rfl (pc' := 20) rfl (t := 57) rfl (cm_ge_f g3) ?_
      refine bk_b (q := (21, [(0, .ref 4), (2, .int l2)], [.ref 4])) tb_c_15_0 mx_15 1 rfl ?_
      refine bk_gi tb_c_15_0 rfl rfl (ci := 7) (k := 5) rfl rfl rfl ?_
      refine bk_b (q := (27, [(0, .ref 4), (2, .int l2)], [.int (1501 : Int32), .int (S.1 4 5)])) tb_c_15_0 mx_15 1 rfl ?_
      by_cases g4 : (S.1 4 5) < (1501 : Int32)
      · rw [if_pos g4] at h
        refine bk_jf tb_c_15_0 rfl (pc' := 30) rfl (t := 57) rfl (cm_ge_f g4) ?_
        refine bk_b (q := (31, [(0, .ref 4), (2, .int l2)], [.ref 4])) tb_c_15_0 mx_15 1 rfl ?_
        refine bk_gc tb_c_15_0 rfl rfl (ci := 7) (k := 2) rfl rfl rfl ?_
        refine bk_b (q := (35, [(0, .ref 4), (2, .int l2)], [.ref 4, .ref 7])) tb_c_15_0 mx_15 1 rfl ?_
        refine bk_gi tb_c_15_0 rfl rfl (ci := 7) (k := 5) rfl rfl rfl ?_
        refine bk_b (q := (39, [(0, .ref 4), (2, .int l2)], [.int l2, .int (S.1 4 5), .ref 7])) tb_c_15_0 mx_15 1 rfl ?_
        obtain ⟨S5, c7, h⟩ := wd_dx h
        refine bk_kv tb_c_15_0 rfl rfl rfl rfl rfl (ci := 5) rfl rfl (ev_up (Nat.le_of_ble_eq_true rfl) (sn_Row_put rfl c7)) ?_
        refine bk_b (q := (46, [(0, .ref 4), (2, .int l2)], [.int l2, .ref 4, .int (1 : Int32), .int l2])) tb_c_15_0 mx_15 4 rfl ?_
        obtain ⟨x9, S8, c10, h⟩ := wd_cx h
        refine bk_kv tb_c_15_0 rfl rfl rfl rfl rfl (ci := 7) rfl rfl (ev_up (Nat.le_of_ble_eq_true rfl) (sn_Tokens_scanOne c10)) ?_
        obtain ⟨x12, S11, c13, h⟩ := wd_cx h
        refine bk_ks tb_c_15_0 rfl rfl rfl (by decide) rfl rfl (ev_up (Nat.le_of_ble_eq_true rfl) (sn_Math_max c13)) ?_
        refine bk_b (q := (12, [(2, .int (l2 + x12)), (0, .ref 4)], [])) tb_c_15_0 mx_15 3 rfl ?_
        exact go_lv (ls_sc rfl rfl (ls_sc rfl rfl ls_nil)) (ih h)
      · rw [if_neg g4] at h
        refine bk_jt tb_c_15_0 rfl (pc' := 57) rfl (cm_ge_t g4) ?_
        exact go_lv ls_nil (sn_Tokens_scan_57 h)
    · rw [if_neg g3] at h
      refine bk_jt tb_c_15_0 rfl (pc' := 57) rfl (cm_ge_t g3) ?_
      exact go_lv ls_nil (sn_Tokens_scan_57 h)
/-- Specialiser$Tokens.scan(I)V -/
noncomputable def fn_Tokens_scan (p1 : Int32) (S : wd_S) : Option wd_S :=
  (wd_b (wd_i S 4 4 p1) fun S1 =>
  (wd_b (wd_i S1 4 5 (0 : Int32)) fun S2 =>
  fn_Tokens_scan_12 wd_F (0 : Int32) S2))
set_option maxRecDepth 100000 in
theorem sn_Tokens_scan {L : Nat} {xs : Nat → Int32} {p1 : Int32} {S : wd_S} {S' : wd_S} (h : fn_Tokens_scan p1 S = some S') : ev_r tb_P L xs (4 + 1) 15 [.ref 4, .int p1] (wd_k S) (.inl none, wd_k S') := by
  unfold fn_Tokens_scan at h
  refine ev_of (Nat.le_of_ble_eq_true rfl) ?_
  show go_r tb_P L xs 4 15 0 [(0, .ref 4), (1, .int p1)] [] (wd_k S) (.inl none, wd_k S')
  refine bk_b (q := (2, [(0, .ref 4), (1, .int p1)], [.int p1, .ref 4])) tb_c_15_0 mx_15 2 rfl ?_
  obtain ⟨S1, eS1, h⟩ := wd_bx h
  refine bk_pi tb_c_15_0 rfl rfl (ci := 7) (k := 4) rfl rfl rfl rfl ?_
  rw [eS1]
  refine bk_b (q := (7, [(0, .ref 4), (1, .int p1)], [.int (0 : Int32), .ref 4])) tb_c_15_0 mx_15 2 rfl ?_
  obtain ⟨S2, eS2, h⟩ := wd_bx h
  refine bk_pi tb_c_15_0 rfl rfl (ci := 7) (k := 5) rfl rfl rfl rfl ?_
  rw [eS2]
  refine bk_b (q := (12, [(2, .int (0 : Int32)), (0, .ref 4), (1, .int p1)], [])) tb_c_15_0 mx_15 2 rfl ?_
  exact go_lv (ls_sc rfl rfl (ls_sc rfl rfl ls_nil)) (sn_Tokens_scan_12 wd_F h)
theorem mx_29 : mi_mx tb_P 29 = 1 := rfl
/-- Specialiser$Trees.clear()V -/
noncomputable def fn_Trees_clear (p0 : Nat) (S : wd_S) : Option wd_S :=
  (wd_b (wd_i S p0 6 (0 : Int32)) fun S1 =>
  some S1)
set_option maxRecDepth 100000 in
theorem sn_Trees_clear {L : Nat} {xs : Nat → Int32} {p0 : Nat} {S : wd_S} {S' : wd_S} (hp0 : tp_t p0 = (0, 8)) (h : fn_Trees_clear p0 S = some S') : ev_r tb_P L xs (0 + 1) 29 [.ref p0] (wd_k S) (.inl none, wd_k S') := by
  unfold fn_Trees_clear at h
  refine ev_of (Nat.le_of_ble_eq_true rfl) ?_
  show go_r tb_P L xs 0 29 0 [(0, .ref p0)] [] (wd_k S) (.inl none, wd_k S')
  refine bk_b (q := (2, [(0, .ref p0)], [.int (0 : Int32), .ref p0])) tb_c_29_0 mx_29 2 rfl ?_
  obtain ⟨S1, eS1, h⟩ := wd_bx h
  refine bk_pi tb_c_29_0 rfl rfl (ci := 8) (k := 6) rfl hp0 rfl rfl ?_
  rw [eS1]
  cases h
  exact bk_t tb_c_29_0 rfl rfl
theorem mx_28 : mi_mx tb_P 28 = 1 := rfl
/-- Specialiser$Bodies.clear()V -/
noncomputable def fn_Bodies_clear (p0 : Nat) (S : wd_S) : Option wd_S :=
  (wd_d (fn_Trees_clear (p0 + 1) S) fun S1 =>
  (wd_b (wd_i S1 p0 3 (0 : Int32)) fun S4 =>
  some S4))
set_option maxRecDepth 100000 in
theorem sn_Bodies_clear {L : Nat} {xs : Nat → Int32} {p0 : Nat} {S : wd_S} {S' : wd_S} (hp0 : tp_t p0 = (0, 0)) (h : fn_Bodies_clear p0 S = some S') : ev_r tb_P L xs (1 + 1) 28 [.ref p0] (wd_k S) (.inl none, wd_k S') := by
  unfold fn_Bodies_clear at h
  refine ev_of (Nat.le_of_ble_eq_true rfl) ?_
  show go_r tb_P L xs 1 28 0 [(0, .ref p0)] [] (wd_k S) (.inl none, wd_k S')
  refine bk_b (q := (1, [(0, .ref p0)], [.ref p0])) tb_c_28_0 mx_28 1 rfl ?_
  refine bk_go tb_c_28_0 rfl rfl (ci := 0) (k := 0) rfl hp0 rfl ?_
  obtain ⟨S1, c3, h⟩ := wd_dx h
  refine bk_kv tb_c_28_0 rfl rfl rfl rfl rfl (ci := 8) (tp_0_0 hp0) rfl (ev_up (Nat.le_of_ble_eq_true rfl) (sn_Trees_clear (tp_0_0 hp0) c3)) ?_
  refine bk_b (q := (9, [(0, .ref p0)], [.int (0 : Int32), .ref p0])) tb_c_28_0 mx_28 2 rfl ?_
  obtain ⟨S4, eS4, h⟩ := wd_bx h
  refine bk_pi tb_c_28_0 rfl rfl (ci := 0) (k := 3) rfl hp0 rfl rfl ?_
  rw [eS4]
  cases h
  exact bk_t tb_c_28_0 rfl rfl
theorem mx_30 : mi_mx tb_P 30 = 2 := rfl
noncomputable def fn_Tokens_kind_21 (s0 : Int32) (S : wd_S) : Option (Int32 × wd_S) :=
  some (s0, S)
set_option maxRecDepth 100000 in
theorem sn_Tokens_kind_21 {L : Nat} {xs : Nat → Int32} {s0 : Int32} {S : wd_S} {x : Int32} {S' : wd_S} (h : fn_Tokens_kind_21 s0 S = some (x, S')) : go_r tb_P L xs 1 30 21 [] [.int s0] (wd_k S) (.inl (some (.int x)), wd_k S') := by
  unfold fn_Tokens_kind_21 at h
  cases h
  exact bk_t tb_c_30_0 rfl rfl
/-- Specialiser$Tokens.kind(I)I -/
noncomputable def fn_Tokens_kind (p1 : Int32) (S : wd_S) : Option (Int32 × wd_S) :=
  (if p1 < (S.1 4 5) then
    (wd_c (fn_Row_at 5 p1 S) fun x3 S2 =>
    fn_Tokens_kind_21 x3 S2)
  else
    fn_Tokens_kind_21 (20 : Int32) S)
set_option maxRecDepth 100000 in
theorem sn_Tokens_kind {L : Nat} {xs : Nat → Int32} {p1 : Int32} {S : wd_S} {x : Int32} {S' : wd_S} (h : fn_Tokens_kind p1 S = some (x, S')) : ev_r tb_P L xs (1 + 1) 30 [.ref 4, .int p1] (wd_k S) (.inl (some (.int x)), wd_k S') := by
  unfold fn_Tokens_kind at h
  refine ev_of (Nat.le_of_ble_eq_true rfl) ?_
  show go_r tb_P L xs 1 30 0 [(0, .ref 4), (1, .int p1)] [] (wd_k S) (.inl (some (.int x)), wd_k S')
  refine bk_b (q := (2, [(0, .ref 4), (1, .int p1)], [.ref 4, .int p1])) tb_c_30_0 mx_30 2 rfl ?_
  refine bk_gi tb_c_30_0 rfl rfl (ci := 7) (k := 5) rfl rfl rfl ?_
  by_cases g1 : p1 < (S.1 4 5)
  · rw [if_pos g1] at h
    refine bk_jf tb_c_30_0 rfl (pc' := 8) rfl (t := 19) rfl (cm_ge_f g1) ?_
    refine bk_b (q := (9, [(0, .ref 4), (1, .int p1)], [.ref 4])) tb_c_30_0 mx_30 1 rfl ?_
    refine bk_gc tb_c_30_0 rfl rfl (ci := 7) (k := 1) rfl rfl rfl ?_
    refine bk_b (q := (13, [(0, .ref 4), (1, .int p1)], [.int p1, .ref 5])) tb_c_30_0 mx_30 1 rfl ?_
    obtain ⟨x3, S2, c4, h⟩ := wd_cx h
    refine bk_kv tb_c_30_0 rfl rfl rfl rfl rfl (ci := 5) rfl rfl (ev_up (Nat.le_of_ble_eq_true rfl) (sn_Row_at rfl c4)) ?_
    refine bk_b (q := (21, [(0, .ref 4), (1, .int p1)], [.int x3])) tb_c_30_0 mx_30 1 rfl ?_
    exact go_lv ls_nil (sn_Tokens_kind_21 h)
  · rw [if_neg g1] at h
    refine bk_jt tb_c_30_0 rfl (pc' := 19) rfl (cm_ge_t g1) ?_
    refine bk_b (q := (21, [(0, .ref 4), (1, .int p1)], [.int (20 : Int32)])) tb_c_30_0 mx_30 1 rfl ?_
    exact go_lv ls_nil (sn_Tokens_kind_21 h)
theorem mx_32 : mi_mx tb_P 32 = 1 := rfl
/-- Specialiser$Bodies.count()I -/
noncomputable def fn_Bodies_count (p0 : Nat) (S : wd_S) : Option (Int32 × wd_S) :=
  some (S.1 p0 3, S)
set_option maxRecDepth 100000 in
theorem sn_Bodies_count {L : Nat} {xs : Nat → Int32} {p0 : Nat} {S : wd_S} {x : Int32} {S' : wd_S} (hp0 : tp_t p0 = (0, 0)) (h : fn_Bodies_count p0 S = some (x, S')) : ev_r tb_P L xs (0 + 1) 32 [.ref p0] (wd_k S) (.inl (some (.int x)), wd_k S') := by
  unfold fn_Bodies_count at h
  refine ev_of (Nat.le_of_ble_eq_true rfl) ?_
  show go_r tb_P L xs 0 32 0 [(0, .ref p0)] [] (wd_k S) (.inl (some (.int x)), wd_k S')
  refine bk_b (q := (1, [(0, .ref p0)], [.ref p0])) tb_c_32_0 mx_32 1 rfl ?_
  refine bk_gi tb_c_32_0 rfl rfl (ci := 0) (k := 3) rfl hp0 rfl ?_
  cases h
  exact bk_t tb_c_32_0 rfl rfl
theorem mx_34 : mi_mx tb_P 34 = 2 := rfl
noncomputable def fn_LongRow_at_23 (s0 : Int64) (S : wd_S) : Option (Int64 × wd_S) :=
  some (s0, S)
set_option maxRecDepth 100000 in
theorem sn_LongRow_at_23 {L : Nat} {xs : Nat → Int32} {s0 : Int64} {S : wd_S} {x : Int64} {S' : wd_S} (h : fn_LongRow_at_23 s0 S = some (x, S')) : go_r tb_P L xs 0 34 23 [] [.long s0] (wd_k S) (.inl (some (.long x)), wd_k S') := by
  unfold fn_LongRow_at_23 at h
  cases h
  exact bk_t tb_c_34_0 rfl rfl
noncomputable def fn_LongRow_at_22 (S : wd_S) : Option (Int64 × wd_S) :=
  fn_LongRow_at_23 (0 : Int64) S
set_option maxRecDepth 100000 in
theorem sn_LongRow_at_22 {L : Nat} {xs : Nat → Int32} {S : wd_S} {x : Int64} {S' : wd_S} (h : fn_LongRow_at_22  S = some (x, S')) : go_r tb_P L xs 0 34 22 [] [] (wd_k S) (.inl (some (.long x)), wd_k S') := by
  unfold fn_LongRow_at_22 at h
  refine bk_b (q := (23, [], [.long (0 : Int64)])) tb_c_34_0 mx_34 1 rfl ?_
  exact go_lv ls_nil (sn_LongRow_at_23 h)
/-- Specialiser$LongRow.at(I)J -/
noncomputable def fn_LongRow_at (p0 : Nat) (p1 : Int32) (S : wd_S) : Option (Int64 × wd_S) :=
  (if p1 < 0 then
    fn_LongRow_at_22  S
  else
    (if p1 < (Int32.ofNat (tp_t (p0 + 1)).2) then
      (if p1 < 0 ∨ (tp_t (p0 + 1)).2 ≤ p1.toNatClampNeg then none else
      fn_LongRow_at_23 (S.2.1 (p0 + 1) p1.toNatClampNeg) S)
    else
      fn_LongRow_at_22  S))
set_option maxRecDepth 100000 in
theorem sn_LongRow_at {L : Nat} {xs : Nat → Int32} {p0 : Nat} {p1 : Int32} {S : wd_S} {x : Int64} {S' : wd_S} (hp0 : tp_t p0 = (0, 1)) (h : fn_LongRow_at p0 p1 S = some (x, S')) : ev_r tb_P L xs (0 + 1) 34 [.ref p0, .int p1] (wd_k S) (.inl (some (.long x)), wd_k S') := by
  unfold fn_LongRow_at at h
  refine ev_of (Nat.le_of_ble_eq_true rfl) ?_
  show go_r tb_P L xs 0 34 0 [(0, .ref p0), (1, .int p1)] [] (wd_k S) (.inl (some (.long x)), wd_k S')
  refine bk_b (q := (1, [(0, .ref p0), (1, .int p1)], [.int p1])) tb_c_34_0 mx_34 1 rfl ?_
  by_cases g1 : p1 < 0
  · rw [if_pos g1] at h
    refine bk_zt tb_c_34_0 rfl (pc' := 22) rfl (cm_lt_t g1) ?_
    exact go_lv ls_nil (sn_LongRow_at_22 h)
  · rw [if_neg g1] at h
    refine bk_zf tb_c_34_0 rfl (pc' := 4) rfl (t := 22) rfl (cm_lt_f g1) ?_
    refine bk_b (q := (6, [(0, .ref p0), (1, .int p1)], [.ref p0, .int p1])) tb_c_34_0 mx_34 2 rfl ?_
    refine bk_go tb_c_34_0 rfl rfl (ci := 1) (k := 0) rfl hp0 rfl ?_
    refine bk_al tb_c_34_0 rfl rfl (tp_1_0 hp0) (by decide) ?_
    by_cases g2 : p1 < (Int32.ofNat (tp_t (p0 + 1)).2)
    · rw [if_pos g2] at h
      refine bk_jf tb_c_34_0 rfl (pc' := 13) rfl (t := 22) rfl (cm_ge_f g2) ?_
      refine bk_b (q := (14, [(0, .ref p0), (1, .int p1)], [.ref p0])) tb_c_34_0 mx_34 1 rfl ?_
      refine bk_go tb_c_34_0 rfl rfl (ci := 1) (k := 0) rfl hp0 rfl ?_
      refine bk_b (q := (18, [(0, .ref p0), (1, .int p1)], [.int p1, .ref (p0 + 1)])) tb_c_34_0 mx_34 1 rfl ?_
      by_cases g3 : p1 < 0 ∨ (tp_t (p0 + 1)).2 ≤ p1.toNatClampNeg
      · rw [if_pos g3] at h; cases h
      · rw [if_neg g3] at h
        refine bk_a8 tb_c_34_0 rfl rfl (tp_1_0 hp0) g3 ?_
        refine bk_b (q := (23, [(0, .ref p0), (1, .int p1)], [.long (S.2.1 (p0 + 1) p1.toNatClampNeg)])) tb_c_34_0 mx_34 1 rfl ?_
        exact go_lv ls_nil (sn_LongRow_at_23 h)
    · rw [if_neg g2] at h
      refine bk_jt tb_c_34_0 rfl (pc' := 22) rfl (cm_ge_t g2) ?_
      exact go_lv ls_nil (sn_LongRow_at_22 h)
theorem mx_33 : mi_mx tb_P 33 = 2 := rfl
/-- Specialiser$Tokens.value(I)J -/
noncomputable def fn_Tokens_value (p1 : Int32) (S : wd_S) : Option (Int64 × wd_S) :=
  (wd_c (fn_LongRow_at 9 p1 S) fun x2 S1 =>
  some (x2, S1))
set_option maxRecDepth 100000 in
theorem sn_Tokens_value {L : Nat} {xs : Nat → Int32} {p1 : Int32} {S : wd_S} {x : Int64} {S' : wd_S} (h : fn_Tokens_value p1 S = some (x, S')) : ev_r tb_P L xs (1 + 1) 33 [.ref 4, .int p1] (wd_k S) (.inl (some (.long x)), wd_k S') := by
  unfold fn_Tokens_value at h
  refine ev_of (Nat.le_of_ble_eq_true rfl) ?_
  show go_r tb_P L xs 1 33 0 [(0, .ref 4), (1, .int p1)] [] (wd_k S) (.inl (some (.long x)), wd_k S')
  refine bk_b (q := (1, [(0, .ref 4), (1, .int p1)], [.ref 4])) tb_c_33_0 mx_33 1 rfl ?_
  refine bk_gc tb_c_33_0 rfl rfl (ci := 7) (k := 3) rfl rfl rfl ?_
  refine bk_b (q := (5, [(0, .ref 4), (1, .int p1)], [.int p1, .ref 9])) tb_c_33_0 mx_33 1 rfl ?_
  obtain ⟨x2, S1, c3, h⟩ := wd_cx h
  refine bk_kv tb_c_33_0 rfl rfl rfl rfl rfl (ci := 1) rfl rfl (ev_up (Nat.le_of_ble_eq_true rfl) (sn_LongRow_at rfl c3)) ?_
  cases h
  exact bk_t tb_c_33_0 rfl rfl
theorem mx_35 : mi_mx tb_P 35 = 5 := rfl
noncomputable def fn_LongRow_lastOf_5 : Nat → Nat → Int64 → Int32 → wd_S → Option (Int32 × wd_S)
  | 0, _, _, _, _ => none
  | n + 1, l0, l1, l4, S =>
    (if l4 < 0 then
      some ((-1 : Int32), S)
    else
      (wd_c (fn_LongRow_at l0 l4 S) fun x3 S2 =>
      (if (lg_cmp x3 l1) = 0 then
        some (l4, S2)
      else
        fn_LongRow_lastOf_5 n l0 l1 (l4 + (-1 : Int32)) S2)))
set_option maxRecDepth 100000 in
theorem sn_LongRow_lastOf_5 {L : Nat} {xs : Nat → Int32} : ∀ (n : Nat) {l0 : Nat} {l1 : Int64} {l4 : Int32} {S : wd_S} {x : Int32} {S' : wd_S}, tp_t l0 = (0, 1) → fn_LongRow_lastOf_5 n l0 l1 l4 S = some (x, S') → go_r tb_P L xs 1 35 5 [(0, .ref l0), (1, .long l1), (4, .int l4)] [] (wd_k S) (.inl (some (.int x)), wd_k S') := by
  intro n
  induction n with
  | zero => intro l0 l1 l4 S x S' hl0 h; cases h
  | succ n ih =>
    intro l0 l1 l4 S x S' hl0 h
    rw [fn_LongRow_lastOf_5] at h
    refine bk_b (q := (7, [(0, .ref l0), (1, .long l1), (4, .int l4)], [.int l4])) tb_c_35_0 mx_35 1 rfl ?_
    by_cases g1 : l4 < 0
    · rw [if_pos g1] at h
      refine bk_zt tb_c_35_0 rfl (pc' := 30) rfl (cm_lt_t g1) ?_
      refine bk_b (q := (31, [(0, .ref l0), (1, .long l1), (4, .int l4)], [.int (-1 : Int32)])) tb_c_35_0 mx_35 1 rfl ?_
      cases h
      exact bk_t tb_c_35_0 rfl rfl
    · rw [if_neg g1] at h
      refine bk_zf tb_c_35_0 rfl (pc' := 10) rfl (t := 30) rfl (cm_lt_f g1) ?_
      refine bk_b (q := (13, [(0, .ref l0), (1, .long l1), (4, .int l4)], [.int l4, .ref l0])) tb_c_35_0 mx_35 2 rfl ?_
      obtain ⟨x3, S2, c4, h⟩ := wd_cx h
      refine bk_kv tb_c_35_0 rfl rfl rfl rfl rfl (ci := 1) hl0 rfl (ev_up (Nat.le_of_ble_eq_true rfl) (sn_LongRow_at hl0 c4)) ?_
      refine bk_b (q := (18, [(0, .ref l0), (1, .long l1), (4, .int l4)], [.int (lg_cmp x3 l1)])) tb_c_35_0 mx_35 2 rfl ?_
      by_cases g5 : (lg_cmp x3 l1) = 0
      · rw [if_pos g5] at h
        refine bk_zf tb_c_35_0 rfl (pc' := 21) rfl (t := 24) rfl (cm_ne_f g5) ?_
        refine bk_b (q := (23, [(0, .ref l0), (1, .long l1), (4, .int l4)], [.int l4])) tb_c_35_0 mx_35 1 rfl ?_
        cases h
        exact bk_t tb_c_35_0 rfl rfl
      · rw [if_neg g5] at h
        refine bk_zt tb_c_35_0 rfl (pc' := 24) rfl (cm_ne_t g5) ?_
        refine bk_b (q := (5, [(4, .int (l4 + (-1 : Int32))), (0, .ref l0), (1, .long l1)], [])) tb_c_35_0 mx_35 2 rfl ?_
        exact go_lv (ls_sc rfl rfl (ls_sc rfl rfl (ls_sc rfl rfl ls_nil))) (ih hl0 h)
/-- Specialiser$LongRow.lastOf(JI)I -/
noncomputable def fn_LongRow_lastOf (p0 : Nat) (p1 : Int64) (p3 : Int32) (S : wd_S) : Option (Int32 × wd_S) :=
  fn_LongRow_lastOf_5 wd_F p0 p1 (p3 - (1 : Int32)) S
set_option maxRecDepth 100000 in
theorem sn_LongRow_lastOf {L : Nat} {xs : Nat → Int32} {p0 : Nat} {p1 : Int64} {p3 : Int32} {S : wd_S} {x : Int32} {S' : wd_S} (hp0 : tp_t p0 = (0, 1)) (h : fn_LongRow_lastOf p0 p1 p3 S = some (x, S')) : ev_r tb_P L xs (1 + 1) 35 [.ref p0, .long p1, .int p3] (wd_k S) (.inl (some (.int x)), wd_k S') := by
  unfold fn_LongRow_lastOf at h
  refine ev_of (Nat.le_of_ble_eq_true rfl) ?_
  show go_r tb_P L xs 1 35 0 [(0, .ref p0), (1, .long p1), (3, .int p3)] [] (wd_k S) (.inl (some (.int x)), wd_k S')
  refine bk_b (q := (5, [(4, .int (p3 - (1 : Int32))), (0, .ref p0), (1, .long p1), (3, .int p3)], [])) tb_c_35_0 mx_35 4 rfl ?_
  exact go_lv (ls_sc rfl rfl (ls_sc rfl rfl (ls_sc rfl rfl ls_nil))) (sn_LongRow_lastOf_5 wd_F hp0 h)
theorem mx_37 : mi_mx tb_P 37 = 3 := rfl
noncomputable def fn_Reader_faultAt_23 (S : wd_S) : Option wd_S :=
  some S
set_option maxRecDepth 100000 in
theorem sn_Reader_faultAt_23 {L : Nat} {xs : Nat → Int32} {S : wd_S} {S' : wd_S} (h : fn_Reader_faultAt_23  S = some S') : go_r tb_P L xs 0 37 23 [] [] (wd_k S) (.inl none, wd_k S') := by
  unfold fn_Reader_faultAt_23 at h
  cases h
  exact bk_t tb_c_37_0 rfl rfl
/-- Specialiser$Reader.faultAt(II)V -/
noncomputable def fn_Reader_faultAt (p1 : Int32) (p2 : Int32) (S : wd_S) : Option wd_S :=
  (if (S.1 47 5) = 0 then
    (wd_b (wd_i S 47 5 p1) fun S2 =>
    (wd_b (wd_i S2 47 6 p2) fun S3 =>
    (wd_b (wd_i S3 47 4 (20 : Int32)) fun S4 =>
    fn_Reader_faultAt_23  S4)))
  else
    fn_Reader_faultAt_23  S)
set_option maxRecDepth 100000 in
theorem sn_Reader_faultAt {L : Nat} {xs : Nat → Int32} {p1 : Int32} {p2 : Int32} {S : wd_S} {S' : wd_S} (h : fn_Reader_faultAt p1 p2 S = some S') : ev_r tb_P L xs (0 + 1) 37 [.ref 47, .int p1, .int p2] (wd_k S) (.inl none, wd_k S') := by
  unfold fn_Reader_faultAt at h
  refine ev_of (Nat.le_of_ble_eq_true rfl) ?_
  show go_r tb_P L xs 0 37 0 [(0, .ref 47), (1, .int p1), (2, .int p2)] [] (wd_k S) (.inl none, wd_k S')
  refine bk_b (q := (1, [(0, .ref 47), (1, .int p1), (2, .int p2)], [.ref 47])) tb_c_37_0 mx_37 1 rfl ?_
  refine bk_gi tb_c_37_0 rfl rfl (ci := 4) (k := 5) rfl rfl rfl ?_
  by_cases g1 : (S.1 47 5) = 0
  · rw [if_pos g1] at h
    refine bk_zf tb_c_37_0 rfl (pc' := 7) rfl (t := 23) rfl (cm_ne_f g1) ?_
    refine bk_b (q := (9, [(0, .ref 47), (1, .int p1), (2, .int p2)], [.int p1, .ref 47])) tb_c_37_0 mx_37 2 rfl ?_
    obtain ⟨S2, eS2, h⟩ := wd_bx h
    refine bk_pi tb_c_37_0 rfl rfl (ci := 4) (k := 5) rfl rfl rfl rfl ?_
    rw [eS2]
    refine bk_b (q := (14, [(0, .ref 47), (1, .int p1), (2, .int p2)], [.int p2, .ref 47])) tb_c_37_0 mx_37 2 rfl ?_
    obtain ⟨S3, eS3, h⟩ := wd_bx h
    refine bk_pi tb_c_37_0 rfl rfl (ci := 4) (k := 6) rfl rfl rfl rfl ?_
    rw [eS3]
    refine bk_b (q := (20, [(0, .ref 47), (1, .int p1), (2, .int p2)], [.int (20 : Int32), .ref 47])) tb_c_37_0 mx_37 2 rfl ?_
    obtain ⟨S4, eS4, h⟩ := wd_bx h
    refine bk_pi tb_c_37_0 rfl rfl (ci := 4) (k := 4) rfl rfl rfl rfl ?_
    rw [eS4]
    exact go_lv ls_nil (sn_Reader_faultAt_23 h)
  · rw [if_neg g1] at h
    refine bk_zt tb_c_37_0 rfl (pc' := 23) rfl (cm_ne_t g1) ?_
    exact go_lv ls_nil (sn_Reader_faultAt_23 h)
theorem mx_39 : mi_mx tb_P 39 = 1 := rfl
noncomputable def fn_Reader_refuse_15 (s1 : Int32) (S : wd_S) : Option wd_S :=
  (wd_d (fn_Reader_faultAt s1 (S.1 47 3) S) fun S2 =>
  some S2)
set_option maxRecDepth 100000 in
theorem sn_Reader_refuse_15 {L : Nat} {xs : Nat → Int32} {s1 : Int32} {S : wd_S} {S' : wd_S} (h : fn_Reader_refuse_15 s1 S = some S') : go_r tb_P L xs 1 39 15 [(0, .ref 47)] [.int s1, .ref 47] (wd_k S) (.inl none, wd_k S') := by
  unfold fn_Reader_refuse_15 at h
  refine bk_b (q := (16, [(0, .ref 47)], [.ref 47, .int s1, .ref 47])) tb_c_39_0 mx_39 1 rfl ?_
  refine bk_gi tb_c_39_0 rfl rfl (ci := 4) (k := 3) rfl rfl rfl ?_
  obtain ⟨S2, c4, h⟩ := wd_dx h
  refine bk_kv tb_c_39_0 rfl rfl rfl rfl rfl (ci := 4) rfl rfl (ev_up (Nat.le_of_ble_eq_true rfl) (sn_Reader_faultAt c4)) ?_
  cases h
  exact bk_t tb_c_39_0 rfl rfl
/-- Specialiser$Reader.refuse()V -/
noncomputable def fn_Reader_refuse (S : wd_S) : Option wd_S :=
  (if (S.1 47 4) = (19 : Int32) then
    fn_Reader_refuse_15 (1 : Int32) S
  else
    fn_Reader_refuse_15 (2 : Int32) S)
set_option maxRecDepth 100000 in
theorem sn_Reader_refuse {L : Nat} {xs : Nat → Int32} {S : wd_S} {S' : wd_S} (h : fn_Reader_refuse  S = some S') : ev_r tb_P L xs (1 + 1) 39 [.ref 47] (wd_k S) (.inl none, wd_k S') := by
  unfold fn_Reader_refuse at h
  refine ev_of (Nat.le_of_ble_eq_true rfl) ?_
  show go_r tb_P L xs 1 39 0 [(0, .ref 47)] [] (wd_k S) (.inl none, wd_k S')
  refine bk_b (q := (2, [(0, .ref 47)], [.ref 47, .ref 47])) tb_c_39_0 mx_39 2 rfl ?_
  refine bk_gi tb_c_39_0 rfl rfl (ci := 4) (k := 4) rfl rfl rfl ?_
  refine bk_b (q := (7, [(0, .ref 47)], [.int (19 : Int32), .int (S.1 47 4), .ref 47])) tb_c_39_0 mx_39 1 rfl ?_
  by_cases g1 : (S.1 47 4) = (19 : Int32)
  · rw [if_pos g1] at h
    refine bk_jf tb_c_39_0 rfl (pc' := 10) rfl (t := 14) rfl (cm_ne_f g1) ?_
    refine bk_b (q := (15, [(0, .ref 47)], [.int (1 : Int32), .ref 47])) tb_c_39_0 mx_39 2 rfl ?_
    exact go_lv (ls_sc rfl rfl ls_nil) (sn_Reader_refuse_15 h)
  · rw [if_neg g1] at h
    refine bk_jt tb_c_39_0 rfl (pc' := 14) rfl (cm_ne_t g1) ?_
    refine bk_b (q := (15, [(0, .ref 47)], [.int (2 : Int32), .ref 47])) tb_c_39_0 mx_39 1 rfl ?_
    exact go_lv (ls_sc rfl rfl ls_nil) (sn_Reader_refuse_15 h)
theorem mx_38 : mi_mx tb_P 38 = 2 := rfl
noncomputable def fn_Reader_takeKind_63 (S : wd_S) : Option wd_S :=
  some S
set_option maxRecDepth 100000 in
theorem sn_Reader_takeKind_63 {L : Nat} {xs : Nat → Int32} {S : wd_S} {S' : wd_S} (h : fn_Reader_takeKind_63  S = some S') : go_r tb_P L xs 2 38 63 [] [] (wd_k S) (.inl none, wd_k S') := by
  unfold fn_Reader_takeKind_63 at h
  cases h
  exact bk_t tb_c_38_0 rfl rfl
/-- Specialiser$Reader.takeKind(I)V -/
noncomputable def fn_Reader_takeKind (p1 : Int32) (S : wd_S) : Option wd_S :=
  (if (S.1 47 4) = p1 then
    (if (S.1 47 3) < (1500 : Int32) then
      (wd_b (wd_i S 47 3 ((S.1 47 3) + (1 : Int32))) fun S3 =>
      (wd_c (fn_Tokens_kind (S3.1 47 3) S3) fun x5 S4 =>
      (wd_b (wd_i S4 47 4 x5) fun S7 =>
      fn_Reader_takeKind_63  S7)))
    else
      (wd_d (fn_Reader_faultAt (6 : Int32) (S.1 47 3) S) fun S8 =>
      fn_Reader_takeKind_63  S8))
  else
    (wd_d (fn_Reader_refuse  S) fun S11 =>
    fn_Reader_takeKind_63  S11))
set_option maxRecDepth 100000 in
theorem sn_Reader_takeKind {L : Nat} {xs : Nat → Int32} {p1 : Int32} {S : wd_S} {S' : wd_S} (h : fn_Reader_takeKind p1 S = some S') : ev_r tb_P L xs (2 + 1) 38 [.ref 47, .int p1] (wd_k S) (.inl none, wd_k S') := by
  unfold fn_Reader_takeKind at h
  refine ev_of (Nat.le_of_ble_eq_true rfl) ?_
  show go_r tb_P L xs 2 38 0 [(0, .ref 47), (1, .int p1)] [] (wd_k S) (.inl none, wd_k S')
  refine bk_b (q := (1, [(0, .ref 47), (1, .int p1)], [.ref 47])) tb_c_38_0 mx_38 1 rfl ?_
  refine bk_gi tb_c_38_0 rfl rfl (ci := 4) (k := 4) rfl rfl rfl ?_
  refine bk_b (q := (5, [(0, .ref 47), (1, .int p1)], [.int p1, .int (S.1 47 4)])) tb_c_38_0 mx_38 1 rfl ?_
  by_cases g1 : (S.1 47 4) = p1
  · rw [if_pos g1] at h
    refine bk_jt tb_c_38_0 rfl (pc' := 15) rfl (cm_eq_t g1) ?_
    refine bk_b (q := (16, [(0, .ref 47), (1, .int p1)], [.ref 47])) tb_c_38_0 mx_38 1 rfl ?_
    refine bk_gi tb_c_38_0 rfl rfl (ci := 4) (k := 3) rfl rfl rfl ?_
    refine bk_b (q := (22, [(0, .ref 47), (1, .int p1)], [.int (1500 : Int32), .int (S.1 47 3)])) tb_c_38_0 mx_38 1 rfl ?_
    by_cases g2 : (S.1 47 3) < (1500 : Int32)
    · rw [if_pos g2] at h
      refine bk_jt tb_c_38_0 rfl (pc' := 38) rfl (cm_lt_t g2) ?_
      refine bk_b (q := (40, [(0, .ref 47), (1, .int p1)], [.ref 47, .ref 47])) tb_c_38_0 mx_38 2 rfl ?_
      refine bk_gi tb_c_38_0 rfl rfl (ci := 4) (k := 3) rfl rfl rfl ?_
      refine bk_b (q := (45, [(0, .ref 47), (1, .int p1)], [.int ((S.1 47 3) + (1 : Int32)), .ref 47])) tb_c_38_0 mx_38 2 rfl ?_
      obtain ⟨S3, eS3, h⟩ := wd_bx h
      refine bk_pi tb_c_38_0 rfl rfl (ci := 4) (k := 3) rfl rfl rfl rfl ?_
      rw [eS3]
      refine bk_b (q := (50, [(0, .ref 47), (1, .int p1)], [.ref 47, .ref 47])) tb_c_38_0 mx_38 2 rfl ?_
      refine bk_gc tb_c_38_0 rfl rfl (ci := 4) (k := 0) rfl rfl rfl ?_
      refine bk_b (q := (54, [(0, .ref 47), (1, .int p1)], [.ref 47, .ref 4, .ref 47])) tb_c_38_0 mx_38 1 rfl ?_
      refine bk_gi tb_c_38_0 rfl rfl (ci := 4) (k := 3) rfl rfl rfl ?_
      obtain ⟨x5, S4, c6, h⟩ := wd_cx h
      refine bk_kv tb_c_38_0 rfl rfl rfl rfl rfl (ci := 7) rfl rfl (ev_up (Nat.le_of_ble_eq_true rfl) (sn_Tokens_kind c6)) ?_
      obtain ⟨S7, eS7, h⟩ := wd_bx h
      refine bk_pi tb_c_38_0 rfl rfl (ci := 4) (k := 4) rfl rfl rfl rfl ?_
      rw [eS7]
      exact go_lv ls_nil (sn_Reader_takeKind_63 h)
    · rw [if_neg g2] at h
      refine bk_jf tb_c_38_0 rfl (pc' := 25) rfl (t := 38) rfl (cm_lt_f g2) ?_
      refine bk_b (q := (29, [(0, .ref 47), (1, .int p1)], [.ref 47, .int (6 : Int32), .ref 47])) tb_c_38_0 mx_38 3 rfl ?_
      refine bk_gi tb_c_38_0 rfl rfl (ci := 4) (k := 3) rfl rfl rfl ?_
      obtain ⟨S8, c10, h⟩ := wd_dx h
      refine bk_kv tb_c_38_0 rfl rfl rfl rfl rfl (ci := 4) rfl rfl (ev_up (Nat.le_of_ble_eq_true rfl) (sn_Reader_faultAt c10)) ?_
      refine bk_b (q := (63, [(0, .ref 47), (1, .int p1)], [])) tb_c_38_0 mx_38 1 rfl ?_
      exact go_lv ls_nil (sn_Reader_takeKind_63 h)
  · rw [if_neg g1] at h
    refine bk_jf tb_c_38_0 rfl (pc' := 8) rfl (t := 15) rfl (cm_eq_f g1) ?_
    refine bk_b (q := (9, [(0, .ref 47), (1, .int p1)], [.ref 47])) tb_c_38_0 mx_38 1 rfl ?_
    obtain ⟨S11, c13, h⟩ := wd_dx h
    refine bk_kv tb_c_38_0 rfl rfl rfl rfl rfl (ci := 4) rfl rfl (ev_up (Nat.le_of_ble_eq_true rfl) (sn_Reader_refuse c13)) ?_
    refine bk_b (q := (63, [(0, .ref 47), (1, .int p1)], [])) tb_c_38_0 mx_38 1 rfl ?_
    exact go_lv ls_nil (sn_Reader_takeKind_63 h)
theorem mx_36 : mi_mx tb_P 36 = 5 := rfl
noncomputable def fn_Reader_takeNewName_58 (l3 : Int64) (S : wd_S) : Option (Int64 × wd_S) :=
  (wd_d (fn_Reader_takeKind (2 : Int32) S) fun S6 =>
  some (l3, S6))
set_option maxRecDepth 100000 in
theorem sn_Reader_takeNewName_58 {L : Nat} {xs : Nat → Int32} {l3 : Int64} {S : wd_S} {x : Int64} {S' : wd_S} (h : fn_Reader_takeNewName_58 l3 S = some (x, S')) : go_r tb_P L xs 3 36 58 [(0, .ref 47), (3, .long l3)] [] (wd_k S) (.inl (some (.long x)), wd_k S') := by
  unfold fn_Reader_takeNewName_58 at h
  refine bk_b (q := (60, [(0, .ref 47), (3, .long l3)], [.int (2 : Int32), .ref 47])) tb_c_36_0 mx_36 2 rfl ?_
  obtain ⟨S6, c8, h⟩ := wd_dx h
  refine bk_kv tb_c_36_0 rfl rfl rfl rfl rfl (ci := 4) rfl rfl (ev_up (Nat.le_of_ble_eq_true rfl) (sn_Reader_takeKind c8)) ?_
  refine bk_b (q := (64, [(0, .ref 47), (3, .long l3)], [.long l3])) tb_c_36_0 mx_36 1 rfl ?_
  cases h
  exact bk_t tb_c_36_0 rfl rfl
noncomputable def fn_Reader_takeNewName_36 (l2 : Int32) (l3 : Int64) (S : wd_S) : Option (Int64 × wd_S) :=
  (if (S.1 47 4) = (2 : Int32) then
    (if l2 = 0 then
      fn_Reader_takeNewName_58 l3 S
    else
      (wd_d (fn_Reader_faultAt (6 : Int32) (S.1 47 3) S) fun S10 =>
      fn_Reader_takeNewName_58 l3 S10))
  else
    fn_Reader_takeNewName_58 l3 S)
set_option maxRecDepth 100000 in
theorem sn_Reader_takeNewName_36 {L : Nat} {xs : Nat → Int32} {l2 : Int32} {l3 : Int64} {S : wd_S} {x : Int64} {S' : wd_S} (h : fn_Reader_takeNewName_36 l2 l3 S = some (x, S')) : go_r tb_P L xs 3 36 36 [(0, .ref 47), (2, .int l2), (3, .long l3)] [] (wd_k S) (.inl (some (.long x)), wd_k S') := by
  unfold fn_Reader_takeNewName_36 at h
  refine bk_b (q := (37, [(0, .ref 47), (2, .int l2), (3, .long l3)], [.ref 47])) tb_c_36_0 mx_36 1 rfl ?_
  refine bk_gi tb_c_36_0 rfl rfl (ci := 4) (k := 4) rfl rfl rfl ?_
  refine bk_b (q := (41, [(0, .ref 47), (2, .int l2), (3, .long l3)], [.int (2 : Int32), .int (S.1 47 4)])) tb_c_36_0 mx_36 1 rfl ?_
  by_cases g5 : (S.1 47 4) = (2 : Int32)
  · rw [if_pos g5] at h
    refine bk_jf tb_c_36_0 rfl (pc' := 44) rfl (t := 58) rfl (cm_ne_f g5) ?_
    refine bk_b (q := (45, [(0, .ref 47), (2, .int l2), (3, .long l3)], [.int l2])) tb_c_36_0 mx_36 1 rfl ?_
    by_cases g9 : l2 = 0
    · rw [if_pos g9] at h
      refine bk_zt tb_c_36_0 rfl (pc' := 58) rfl (cm_eq_t g9) ?_
      exact go_lv (ls_sc rfl rfl (ls_sc rfl rfl ls_nil)) (sn_Reader_takeNewName_58 h)
    · rw [if_neg g9] at h
      refine bk_zf tb_c_36_0 rfl (pc' := 48) rfl (t := 58) rfl (cm_eq_f g9) ?_
      refine bk_b (q := (52, [(0, .ref 47), (2, .int l2), (3, .long l3)], [.ref 47, .int (6 : Int32), .ref 47])) tb_c_36_0 mx_36 3 rfl ?_
      refine bk_gi tb_c_36_0 rfl rfl (ci := 4) (k := 3) rfl rfl rfl ?_
      obtain ⟨S10, c12, h⟩ := wd_dx h
      refine bk_kv tb_c_36_0 rfl rfl rfl rfl rfl (ci := 4) rfl rfl (ev_up (Nat.le_of_ble_eq_true rfl) (sn_Reader_faultAt c12)) ?_
      exact go_lv (ls_sc rfl rfl (ls_sc rfl rfl ls_nil)) (sn_Reader_takeNewName_58 h)
  · rw [if_neg g5] at h
    refine bk_jt tb_c_36_0 rfl (pc' := 58) rfl (cm_ne_t g5) ?_
    exact go_lv (ls_sc rfl rfl (ls_sc rfl rfl ls_nil)) (sn_Reader_takeNewName_58 h)
/-- Specialiser$Reader.takeNewName(ZZ)J -/
noncomputable def fn_Reader_takeNewName (p1 : Int32) (p2 : Int32) (S : wd_S) : Option (Int64 × wd_S) :=
  (wd_c (fn_Tokens_value (S.1 47 3) S) fun x2 S1 =>
  (if (S1.1 47 4) = (2 : Int32) then
    (if p1 = 0 then
      fn_Reader_takeNewName_36 p2 x2 S1
    else
      (wd_d (fn_Reader_faultAt (3 : Int32) (S1.1 47 3) S1) fun S14 =>
      fn_Reader_takeNewName_58 x2 S14))
  else
    fn_Reader_takeNewName_36 p2 x2 S1))
set_option maxRecDepth 100000 in
theorem sn_Reader_takeNewName {L : Nat} {xs : Nat → Int32} {p1 : Int32} {p2 : Int32} {S : wd_S} {x : Int64} {S' : wd_S} (h : fn_Reader_takeNewName p1 p2 S = some (x, S')) : ev_r tb_P L xs (3 + 1) 36 [.ref 47, .int p1, .int p2] (wd_k S) (.inl (some (.long x)), wd_k S') := by
  unfold fn_Reader_takeNewName at h
  refine ev_of (Nat.le_of_ble_eq_true rfl) ?_
  show go_r tb_P L xs 3 36 0 [(0, .ref 47), (1, .int p1), (2, .int p2)] [] (wd_k S) (.inl (some (.long x)), wd_k S')
  refine bk_b (q := (1, [(0, .ref 47), (1, .int p1), (2, .int p2)], [.ref 47])) tb_c_36_0 mx_36 1 rfl ?_
  refine bk_gc tb_c_36_0 rfl rfl (ci := 4) (k := 0) rfl rfl rfl ?_
  refine bk_b (q := (5, [(0, .ref 47), (1, .int p1), (2, .int p2)], [.ref 47, .ref 4])) tb_c_36_0 mx_36 1 rfl ?_
  refine bk_gi tb_c_36_0 rfl rfl (ci := 4) (k := 3) rfl rfl rfl ?_
  obtain ⟨x2, S1, c3, h⟩ := wd_cx h
  refine bk_kv tb_c_36_0 rfl rfl rfl rfl rfl (ci := 7) rfl rfl (ev_up (Nat.le_of_ble_eq_true rfl) (sn_Tokens_value c3)) ?_
  refine bk_b (q := (13, [(3, .long x2), (0, .ref 47), (1, .int p1), (2, .int p2)], [.ref 47])) tb_c_36_0 mx_36 2 rfl ?_
  refine bk_gi tb_c_36_0 rfl rfl (ci := 4) (k := 4) rfl rfl rfl ?_
  refine bk_b (q := (17, [(3, .long x2), (0, .ref 47), (1, .int p1), (2, .int p2)], [.int (2 : Int32), .int (S1.1 47 4)])) tb_c_36_0 mx_36 1 rfl ?_
  by_cases g4 : (S1.1 47 4) = (2 : Int32)
  · rw [if_pos g4] at h
    refine bk_jf tb_c_36_0 rfl (pc' := 20) rfl (t := 36) rfl (cm_ne_f g4) ?_
    refine bk_b (q := (21, [(3, .long x2), (0, .ref 47), (1, .int p1), (2, .int p2)], [.int p1])) tb_c_36_0 mx_36 1 rfl ?_
    by_cases g13 : p1 = 0
    · rw [if_pos g13] at h
      refine bk_zt tb_c_36_0 rfl (pc' := 36) rfl (cm_eq_t g13) ?_
      exact go_lv (ls_sc rfl rfl (ls_sc rfl rfl (ls_sc rfl rfl ls_nil))) (sn_Reader_takeNewName_36 h)
    · rw [if_neg g13] at h
      refine bk_zf tb_c_36_0 rfl (pc' := 24) rfl (t := 36) rfl (cm_eq_f g13) ?_
      refine bk_b (q := (27, [(3, .long x2), (0, .ref 47), (1, .int p1), (2, .int p2)], [.ref 47, .int (3 : Int32), .ref 47])) tb_c_36_0 mx_36 3 rfl ?_
      refine bk_gi tb_c_36_0 rfl rfl (ci := 4) (k := 3) rfl rfl rfl ?_
      obtain ⟨S14, c16, h⟩ := wd_dx h
      refine bk_kv tb_c_36_0 rfl rfl rfl rfl rfl (ci := 4) rfl rfl (ev_up (Nat.le_of_ble_eq_true rfl) (sn_Reader_faultAt c16)) ?_
      refine bk_b (q := (58, [(3, .long x2), (0, .ref 47), (1, .int p1), (2, .int p2)], [])) tb_c_36_0 mx_36 1 rfl ?_
      exact go_lv (ls_sc rfl rfl (ls_sc rfl rfl ls_nil)) (sn_Reader_takeNewName_58 h)
  · rw [if_neg g4] at h
    refine bk_jt tb_c_36_0 rfl (pc' := 36) rfl (cm_ne_t g4) ?_
    exact go_lv (ls_sc rfl rfl (ls_sc rfl rfl (ls_sc rfl rfl ls_nil))) (sn_Reader_takeNewName_36 h)
theorem mx_41 : mi_mx tb_P 41 = 4 := rfl
/-- Specialiser$Reader.enter(JI)V -/
noncomputable def fn_Reader_enter (p1 : Int64) (p3 : Int32) (S : wd_S) : Option wd_S :=
  (wd_d (fn_LongRow_put 50 (S.1 47 11) p1 S) fun S1 =>
  (wd_d (fn_Row_put 52 (S1.1 47 11) p3 S1) fun S4 =>
  (wd_b (wd_i S4 47 11 ((S4.1 47 11) + (1 : Int32))) fun S7 =>
  some S7)))
set_option maxRecDepth 100000 in
theorem sn_Reader_enter {L : Nat} {xs : Nat → Int32} {p1 : Int64} {p3 : Int32} {S : wd_S} {S' : wd_S} (h : fn_Reader_enter p1 p3 S = some S') : ev_r tb_P L xs (1 + 1) 41 [.ref 47, .long p1, .int p3] (wd_k S) (.inl none, wd_k S') := by
  unfold fn_Reader_enter at h
  refine ev_of (Nat.le_of_ble_eq_true rfl) ?_
  show go_r tb_P L xs 1 41 0 [(0, .ref 47), (1, .long p1), (3, .int p3)] [] (wd_k S) (.inl none, wd_k S')
  refine bk_b (q := (1, [(0, .ref 47), (1, .long p1), (3, .int p3)], [.ref 47])) tb_c_41_0 mx_41 1 rfl ?_
  refine bk_gc tb_c_41_0 rfl rfl (ci := 4) (k := 9) rfl rfl rfl ?_
  refine bk_b (q := (5, [(0, .ref 47), (1, .long p1), (3, .int p3)], [.ref 47, .ref 50])) tb_c_41_0 mx_41 1 rfl ?_
  refine bk_gi tb_c_41_0 rfl rfl (ci := 4) (k := 11) rfl rfl rfl ?_
  refine bk_b (q := (9, [(0, .ref 47), (1, .long p1), (3, .int p3)], [.long p1, .int (S.1 47 11), .ref 50])) tb_c_41_0 mx_41 1 rfl ?_
  obtain ⟨S1, c3, h⟩ := wd_dx h
  refine bk_kv tb_c_41_0 rfl rfl rfl rfl rfl (ci := 1) rfl rfl (ev_up (Nat.le_of_ble_eq_true rfl) (sn_LongRow_put rfl c3)) ?_
  refine bk_b (q := (13, [(0, .ref 47), (1, .long p1), (3, .int p3)], [.ref 47])) tb_c_41_0 mx_41 1 rfl ?_
  refine bk_gc tb_c_41_0 rfl rfl (ci := 4) (k := 10) rfl rfl rfl ?_
  refine bk_b (q := (17, [(0, .ref 47), (1, .long p1), (3, .int p3)], [.ref 47, .ref 52])) tb_c_41_0 mx_41 1 rfl ?_
  refine bk_gi tb_c_41_0 rfl rfl (ci := 4) (k := 11) rfl rfl rfl ?_
  refine bk_b (q := (21, [(0, .ref 47), (1, .long p1), (3, .int p3)], [.int p3, .int (S1.1 47 11), .ref 52])) tb_c_41_0 mx_41 1 rfl ?_
  obtain ⟨S4, c6, h⟩ := wd_dx h
  refine bk_kv tb_c_41_0 rfl rfl rfl rfl rfl (ci := 5) rfl rfl (ev_up (Nat.le_of_ble_eq_true rfl) (sn_Row_put rfl c6)) ?_
  refine bk_b (q := (26, [(0, .ref 47), (1, .long p1), (3, .int p3)], [.ref 47, .ref 47])) tb_c_41_0 mx_41 2 rfl ?_
  refine bk_gi tb_c_41_0 rfl rfl (ci := 4) (k := 11) rfl rfl rfl ?_
  refine bk_b (q := (31, [(0, .ref 47), (1, .long p1), (3, .int p3)], [.int ((S4.1 47 11) + (1 : Int32)), .ref 47])) tb_c_41_0 mx_41 2 rfl ?_
  obtain ⟨S7, eS7, h⟩ := wd_bx h
  refine bk_pi tb_c_41_0 rfl rfl (ci := 4) (k := 11) rfl rfl rfl rfl ?_
  rw [eS7]
  cases h
  exact bk_t tb_c_41_0 rfl rfl
