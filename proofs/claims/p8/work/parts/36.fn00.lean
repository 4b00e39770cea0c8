/-! Methods as functions: printed by wip/whole/gen_fn.py. -/
theorem mx_8 : mi_mx tb_P 8 = 1 := rfl
/-- Specialiser$Bodies.trees()LSpecialiser$Trees; -/
noncomputable def fn_Bodies_trees (p0 : Nat) (S : wd_S) : Option (Nat × wd_S) :=
  some ((p0 + 1), S)
set_option maxRecDepth 100000 in
theorem sn_Bodies_trees {L : Nat} {xs : Nat → Int32} {p0 : Nat} {S : wd_S} {x : Nat} {S' : wd_S} (hp0 : tp_t p0 = (0, 0)) (h : fn_Bodies_trees p0 S = some (x, S')) : ev_r tb_P L xs (0 + 1) 8 [.ref p0] (wd_k S) (.inl (some (.ref x)), wd_k S') := by
  unfold fn_Bodies_trees at h
  refine ev_of (Nat.le_of_ble_eq_true rfl) ?_
  show go_r tb_P L xs 0 8 0 [(0, .ref p0)] [] (wd_k S) (.inl (some (.ref x)), wd_k S')
  refine bk_b (q := (1, [(0, .ref p0)], [.ref p0])) tb_c_8_0 mx_8 1 rfl ?_
  refine bk_go tb_c_8_0 rfl rfl (ci := 0) (k := 0) rfl hp0 rfl ?_
  cases h
  exact bk_t tb_c_8_0 rfl rfl
theorem mx_12 : mi_mx tb_P 12 = 1 := rfl
/-- Specialiser$Versions.bodies()LSpecialiser$Bodies; -/
noncomputable def fn_Versions_bodies (p0 : Nat) (S : wd_S) : Option (Nat × wd_S) :=
  some ((p0 + 1), S)
set_option maxRecDepth 100000 in
theorem sn_Versions_bodies {L : Nat} {xs : Nat → Int32} {p0 : Nat} {S : wd_S} {x : Nat} {S' : wd_S} (hp0 : tp_t p0 = (0, 9)) (h : fn_Versions_bodies p0 S = some (x, S')) : ev_r tb_P L xs (0 + 1) 12 [.ref p0] (wd_k S) (.inl (some (.ref x)), wd_k S') := by
  unfold fn_Versions_bodies at h
  refine ev_of (Nat.le_of_ble_eq_true rfl) ?_
  show go_r tb_P L xs 0 12 0 [(0, .ref p0)] [] (wd_k S) (.inl (some (.ref x)), wd_k S')
  refine bk_b (q := (1, [(0, .ref p0)], [.ref p0])) tb_c_12_0 mx_12 1 rfl ?_
  refine bk_go tb_c_12_0 rfl rfl (ci := 9) (k := 0) rfl hp0 rfl ?_
  cases h
  exact bk_t tb_c_12_0 rfl rfl
theorem mx_16 : mi_mx tb_P 16 = 3 := rfl
noncomputable def fn_Row_put_20 (S : wd_S) : Option wd_S :=
  some S
set_option maxRecDepth 100000 in
theorem sn_Row_put_20 {L : Nat} {xs : Nat → Int32} {S : wd_S} {S' : wd_S} (h : fn_Row_put_20  S = some S') : go_r tb_P L xs 0 16 20 [] [] (wd_k S) (.inl none, wd_k S') := by
  unfold fn_Row_put_20 at h
  cases h
  exact bk_t tb_c_16_0 rfl rfl
/-- Specialiser$Row.put(II)V -/
noncomputable def fn_Row_put (p0 : Nat) (p1 : Int32) (p2 : Int32) (S : wd_S) : Option wd_S :=
  (if p1 < 0 then
    fn_Row_put_20  S
  else
    (if p1 < (Int32.ofNat (tp_t (p0 + 1)).2) then
      (if p1 < 0 ∨ (tp_t (p0 + 1)).2 ≤ p1.toNatClampNeg then none else
      (wd_b (wd_i S (p0 + 1) p1.toNatClampNeg p2) fun S4 =>
      fn_Row_put_20  S4))
    else
      fn_Row_put_20  S))
set_option maxRecDepth 100000 in
theorem sn_Row_put {L : Nat} {xs : Nat → Int32} {p0 : Nat} {p1 : Int32} {p2 : Int32} {S : wd_S} {S' : wd_S} (hp0 : tp_t p0 = (0, 5)) (h : fn_Row_put p0 p1 p2 S = some S') : ev_r tb_P L xs (0 + 1) 16 [.ref p0, .int p1, .int p2] (wd_k S) (.inl none, wd_k S') := by
  unfold fn_Row_put at h
  refine ev_of (Nat.le_of_ble_eq_true rfl) ?_
  show go_r tb_P L xs 0 16 0 [(0, .ref p0), (1, .int p1), (2, .int p2)] [] (wd_k S) (.inl none, wd_k S')
  refine bk_b (q := (1, [(0, .ref p0), (1, .int p1), (2, .int p2)], [.int p1])) tb_c_16_0 mx_16 1 rfl ?_
  by_cases g1 : p1 < 0
  · rw [if_pos g1] at h
    refine bk_zt tb_c_16_0 rfl (pc' := 20) rfl (cm_lt_t g1) ?_
    exact go_lv ls_nil (sn_Row_put_20 h)
  · rw [if_neg g1] at h
    refine bk_zf tb_c_16_0 rfl (pc' := 4) rfl (t := 20) rfl (cm_lt_f g1) ?_
    refine bk_b (q := (6, [(0, .ref p0), (1, .int p1), (2, .int p2)], [.ref p0, .int p1])) tb_c_16_0 mx_16 2 rfl ?_
    refine bk_go tb_c_16_0 rfl rfl (ci := 5) (k := 0) rfl hp0 rfl ?_
    refine bk_al tb_c_16_0 rfl rfl (tp_5_0 hp0) (by decide) ?_
    by_cases g2 : p1 < (Int32.ofNat (tp_t (p0 + 1)).2)
    · rw [if_pos g2] at h
      refine bk_jf tb_c_16_0 rfl (pc' := 13) rfl (t := 20) rfl (cm_ge_f g2) ?_
      refine bk_b (q := (14, [(0, .ref p0), (1, .int p1), (2, .int p2)], [.ref p0])) tb_c_16_0 mx_16 1 rfl ?_
      refine bk_go tb_c_16_0 rfl rfl (ci := 5) (k := 0) rfl hp0 rfl ?_
      refine bk_b (q := (19, [(0, .ref p0), (1, .int p1), (2, .int p2)], [.int p2, .int p1, .ref (p0 + 1)])) tb_c_16_0 mx_16 2 rfl ?_
      by_cases g3 : p1 < 0 ∨ (tp_t (p0 + 1)).2 ≤ p1.toNatClampNeg
      · rw [if_pos g3] at h; cases h
      · rw [if_neg g3] at h
        obtain ⟨S4, eS4, h⟩ := wd_bx h
        refine bk_s4 tb_c_16_0 rfl rfl (tp_5_0 hp0) g3 ?_
        rw [eS4]
        exact go_lv ls_nil (sn_Row_put_20 h)
    · rw [if_neg g2] at h
      refine bk_jt tb_c_16_0 rfl (pc' := 20) rfl (cm_ge_t g2) ?_
      exact go_lv ls_nil (sn_Row_put_20 h)
theorem mx_18 : mi_mx tb_P 18 = 2 := rfl
noncomputable def fn_Row_at_23 (s0 : Int32) (S : wd_S) : Option (Int32 × wd_S) :=
  some (s0, S)
set_option maxRecDepth 100000 in
theorem sn_Row_at_23 {L : Nat} {xs : Nat → Int32} {s0 : Int32} {S : wd_S} {x : Int32} {S' : wd_S} (h : fn_Row_at_23 s0 S = some (x, S')) : go_r tb_P L xs 0 18 23 [] [.int s0] (wd_k S) (.inl (some (.int x)), wd_k S') := by
  unfold fn_Row_at_23 at h
  cases h
  exact bk_t tb_c_18_0 rfl rfl
noncomputable def fn_Row_at_22 (S : wd_S) : Option (Int32 × wd_S) :=
  fn_Row_at_23 (0 : Int32) S
set_option maxRecDepth 100000 in
theorem sn_Row_at_22 {L : Nat} {xs : Nat → Int32} {S : wd_S} {x : Int32} {S' : wd_S} (h : fn_Row_at_22  S = some (x, S')) : go_r tb_P L xs 0 18 22 [] [] (wd_k S) (.inl (some (.int x)), wd_k S') := by
  unfold fn_Row_at_22 at h
  refine bk_b (q := (23, [], [.int (0 : Int32)])) tb_c_18_0 mx_18 1 rfl ?_
  exact go_lv ls_nil (sn_Row_at_23 h)
/-- Specialiser$Row.at(I)I -/
noncomputable def fn_Row_at (p0 : Nat) (p1 : Int32) (S : wd_S) : Option (Int32 × wd_S) :=
  (if p1 < 0 then
    fn_Row_at_22  S
  else
    (if p1 < (Int32.ofNat (tp_t (p0 + 1)).2) then
      (if p1 < 0 ∨ (tp_t (p0 + 1)).2 ≤ p1.toNatClampNeg then none else
      fn_Row_at_23 (S.1 (p0 + 1) p1.toNatClampNeg) S)
    else
      fn_Row_at_22  S))
set_option maxRecDepth 100000 in
theorem sn_Row_at {L : Nat} {xs : Nat → Int32} {p0 : Nat} {p1 : Int32} {S : wd_S} {x : Int32} {S' : wd_S} (hp0 : tp_t p0 = (0, 5)) (h : fn_Row_at p0 p1 S = some (x, S')) : ev_r tb_P L xs (0 + 1) 18 [.ref p0, .int p1] (wd_k S) (.inl (some (.int x)), wd_k S') := by
  unfold fn_Row_at at h
  refine ev_of (Nat.le_of_ble_eq_true rfl) ?_
  show go_r tb_P L xs 0 18 0 [(0, .ref p0), (1, .int p1)] [] (wd_k S) (.inl (some (.int x)), wd_k S')
  refine bk_b (q := (1, [(0, .ref p0), (1, .int p1)], [.int p1])) tb_c_18_0 mx_18 1 rfl ?_
  by_cases g1 : p1 < 0
  · rw [if_pos g1] at h
    refine bk_zt tb_c_18_0 rfl (pc' := 22) rfl (cm_lt_t g1) ?_
    exact go_lv ls_nil (sn_Row_at_22 h)
  · rw [if_neg g1] at h
    refine bk_zf tb_c_18_0 rfl (pc' := 4) rfl (t := 22) rfl (cm_lt_f g1) ?_
    refine bk_b (q := (6, [(0, .ref p0), (1, .int p1)], [.ref p0, .int p1])) tb_c_18_0 mx_18 2 rfl ?_
    refine bk_go tb_c_18_0 rfl rfl (ci := 5) (k := 0) rfl hp0 rfl ?_
    refine bk_al tb_c_18_0 rfl rfl (tp_5_0 hp0) (by decide) ?_
    by_cases g2 : p1 < (Int32.ofNat (tp_t (p0 + 1)).2)
    · rw [if_pos g2] at h
      refine bk_jf tb_c_18_0 rfl (pc' := 13) rfl (t := 22) rfl (cm_ge_f g2) ?_
      refine bk_b (q := (14, [(0, .ref p0), (1, .int p1)], [.ref p0])) tb_c_18_0 mx_18 1 rfl ?_
      refine bk_go tb_c_18_0 rfl rfl (ci := 5) (k := 0) rfl hp0 rfl ?_
      refine bk_b (q := (18, [(0, .ref p0), (1, .int p1)], [.int p1, .ref (p0 + 1)])) tb_c_18_0 mx_18 1 rfl ?_
      by_cases g3 : p1 < 0 ∨ (tp_t (p0 + 1)).2 ≤ p1.toNatClampNeg
      · rw [if_pos g3] at h; cases h
      · rw [if_neg g3] at h
        refine bk_a4 tb_c_18_0 rfl rfl (tp_5_0 hp0) g3 ?_
        refine bk_b (q := (23, [(0, .ref p0), (1, .int p1)], [.int (S.1 (p0 + 1) p1.toNatClampNeg)])) tb_c_18_0 mx_18 1 rfl ?_
        exact go_lv ls_nil (sn_Row_at_23 h)
    · rw [if_neg g2] at h
      refine bk_jt tb_c_18_0 rfl (pc' := 22) rfl (cm_ge_t g2) ?_
      exact go_lv ls_nil (sn_Row_at_22 h)
theorem mx_19 : mi_mx tb_P 19 = 1 := rfl
noncomputable def fn_Tokens_isLetter_17 (s0 : Int32) (S : wd_S) : Option (Int32 × wd_S) :=
  (if mi_fit .boolean (.int s0) = true then some (s0, S) else none)
set_option maxRecDepth 100000 in
theorem sn_Tokens_isLetter_17 {L : Nat} {xs : Nat → Int32} {s0 : Int32} {S : wd_S} {x : Int32} {S' : wd_S} (h : fn_Tokens_isLetter_17 s0 S = some (x, S')) : go_r tb_P L xs 0 19 17 [] [.int s0] (wd_k S) (.inl (some (.int x)), wd_k S') := by
  unfold fn_Tokens_isLetter_17 at h
  by_cases g2 : mi_fit .boolean (.int s0) = true
  · rw [if_pos g2] at h
    cases h
    exact bk_t tb_c_19_0 rfl (if_pos g2)
  · rw [if_neg g2] at h; cases h
noncomputable def fn_Tokens_isLetter_16 (S : wd_S) : Option (Int32 × wd_S) :=
  fn_Tokens_isLetter_17 (0 : Int32) S
set_option maxRecDepth 100000 in
theorem sn_Tokens_isLetter_16 {L : Nat} {xs : Nat → Int32} {S : wd_S} {x : Int32} {S' : wd_S} (h : fn_Tokens_isLetter_16  S = some (x, S')) : go_r tb_P L xs 0 19 16 [] [] (wd_k S) (.inl (some (.int x)), wd_k S') := by
  unfold fn_Tokens_isLetter_16 at h
  refine bk_b (q := (17, [], [.int (0 : Int32)])) tb_c_19_0 mx_19 1 rfl ?_
  exact go_lv ls_nil (sn_Tokens_isLetter_17 h)
/-- Specialiser$Tokens.isLetter(I)Z -/
noncomputable def fn_Tokens_isLetter (p0 : Int32) (S : wd_S) : Option (Int32 × wd_S) :=
  (if p0 < (97 : Int32) then
    fn_Tokens_isLetter_16  S
  else
    (if (122 : Int32) < p0 then
      fn_Tokens_isLetter_16  S
    else
      fn_Tokens_isLetter_17 (1 : Int32) S))
set_option maxRecDepth 100000 in
theorem sn_Tokens_isLetter {L : Nat} {xs : Nat → Int32} {p0 : Int32} {S : wd_S} {x : Int32} {S' : wd_S} (h : fn_Tokens_isLetter p0 S = some (x, S')) : ev_r tb_P L xs (0 + 1) 19 [.int p0] (wd_k S) (.inl (some (.int x)), wd_k S') := by
  unfold fn_Tokens_isLetter at h
  refine ev_of (Nat.le_of_ble_eq_true rfl) ?_
  show go_r tb_P L xs 0 19 0 [(0, .int p0)] [] (wd_k S) (.inl (some (.int x)), wd_k S')
  refine bk_b (q := (3, [(0, .int p0)], [.int (97 : Int32), .int p0])) tb_c_19_0 mx_19 2 rfl ?_
  by_cases g1 : p0 < (97 : Int32)
  · rw [if_pos g1] at h
    refine bk_jt tb_c_19_0 rfl (pc' := 16) rfl (cm_lt_t g1) ?_
    exact go_lv ls_nil (sn_Tokens_isLetter_16 h)
  · rw [if_neg g1] at h
    refine bk_jf tb_c_19_0 rfl (pc' := 6) rfl (t := 16) rfl (cm_lt_f g1) ?_
    refine bk_b (q := (9, [(0, .int p0)], [.int (122 : Int32), .int p0])) tb_c_19_0 mx_19 2 rfl ?_
    by_cases g3 : (122 : Int32) < p0
    · rw [if_pos g3] at h
      refine bk_jt tb_c_19_0 rfl (pc' := 16) rfl (cm_gt_t g3) ?_
      exact go_lv ls_nil (sn_Tokens_isLetter_16 h)
    · rw [if_neg g3] at h
      refine bk_jf tb_c_19_0 rfl (pc' := 12) rfl (t := 16) rfl (cm_gt_f g3) ?_
      refine bk_b (q := (17, [(0, .int p0)], [.int (1 : Int32)])) tb_c_19_0 mx_19 2 rfl ?_
      exact go_lv ls_nil (sn_Tokens_isLetter_17 h)
theorem mx_20 : mi_mx tb_P 20 = 1 := rfl
noncomputable def fn_Tokens_isDigit_17 (s0 : Int32) (S : wd_S) : Option (Int32 × wd_S) :=
  (if mi_fit .boolean (.int s0) = true then some (s0, S) else none)
set_option maxRecDepth 100000 in
theorem sn_Tokens_isDigit_17 {L : Nat} {xs : Nat → Int32} {s0 : Int32} {S : wd_S} {x : Int32} {S' : wd_S} (h : fn_Tokens_isDigit_17 s0 S = some (x, S')) : go_r tb_P L xs 0 20 17 [] [.int s0] (wd_k S) (.inl (some (.int x)), wd_k S') := by
  unfold fn_Tokens_isDigit_17 at h
  by_cases g2 : mi_fit .boolean (.int s0) = true
  · rw [if_pos g2] at h
    cases h
    exact bk_t tb_c_20_0 rfl (if_pos g2)
  · rw [if_neg g2] at h; cases h
noncomputable def fn_Tokens_isDigit_16 (S : wd_S) : Option (Int32 × wd_S) :=
  fn_Tokens_isDigit_17 (0 : Int32) S
set_option maxRecDepth 100000 in
theorem sn_Tokens_isDigit_16 {L : Nat} {xs : Nat → Int32} {S : wd_S} {x : Int32} {S' : wd_S} (h : fn_Tokens_isDigit_16  S = some (x, S')) : go_r tb_P L xs 0 20 16 [] [] (wd_k S) (.inl (some (.int x)), wd_k S') := by
  unfold fn_Tokens_isDigit_16 at h
  refine bk_b (q := (17, [], [.int (0 : Int32)])) tb_c_20_0 mx_20 1 rfl ?_
  exact go_lv ls_nil (sn_Tokens_isDigit_17 h)
/-- Specialiser$Tokens.isDigit(I)Z -/
noncomputable def fn_Tokens_isDigit (p0 : Int32) (S : wd_S) : Option (Int32 × wd_S) :=
  (if p0 < (48 : Int32) then
    fn_Tokens_isDigit_16  S
  else
    (if (57 : Int32) < p0 then
      fn_Tokens_isDigit_16  S
    else
      fn_Tokens_isDigit_17 (1 : Int32) S))
set_option maxRecDepth 100000 in
theorem sn_Tokens_isDigit {L : Nat} {xs : Nat → Int32} {p0 : Int32} {S : wd_S} {x : Int32} {S' : wd_S} (h : fn_Tokens_isDigit p0 S = some (x, S')) : ev_r tb_P L xs (0 + 1) 20 [.int p0] (wd_k S) (.inl (some (.int x)), wd_k S') := by
  unfold fn_Tokens_isDigit at h
  refine ev_of (Nat.le_of_ble_eq_true rfl) ?_
  show go_r tb_P L xs 0 20 0 [(0, .int p0)] [] (wd_k S) (.inl (some (.int x)), wd_k S')
  refine bk_b (q := (3, [(0, .int p0)], [.int (48 : Int32), .int p0])) tb_c_20_0 mx_20 2 rfl ?_
  by_cases g1 : p0 < (48 : Int32)
  · rw [if_pos g1] at h
    refine bk_jt tb_c_20_0 rfl (pc' := 16) rfl (cm_lt_t g1) ?_
    exact go_lv ls_nil (sn_Tokens_isDigit_16 h)
  · rw [if_neg g1] at h
    refine bk_jf tb_c_20_0 rfl (pc' := 6) rfl (t := 16) rfl (cm_lt_f g1) ?_
    refine bk_b (q := (9, [(0, .int p0)], [.int (57 : Int32), .int p0])) tb_c_20_0 mx_20 2 rfl ?_
    by_cases g3 : (57 : Int32) < p0
    · rw [if_pos g3] at h
      refine bk_jt tb_c_20_0 rfl (pc' := 16) rfl (cm_gt_t g3) ?_
      exact go_lv ls_nil (sn_Tokens_isDigit_16 h)
    · rw [if_neg g3] at h
      refine bk_jf tb_c_20_0 rfl (pc' := 12) rfl (t := 16) rfl (cm_gt_f g3) ?_
      refine bk_b (q := (17, [(0, .int p0)], [.int (1 : Int32)])) tb_c_20_0 mx_20 2 rfl ?_
      exact go_lv ls_nil (sn_Tokens_isDigit_17 h)
theorem mx_22 : mi_mx tb_P 22 = 2 := rfl
noncomputable def fn_Tokens_wordKind_56 (s0 : Int32) (S : wd_S) : Option (Int32 × wd_S) :=
  some (s0, S)
set_option maxRecDepth 100000 in
theorem sn_Tokens_wordKind_56 {L : Nat} {xs : Nat → Int32} {s0 : Int32} {S : wd_S} {x : Int32} {S' : wd_S} (h : fn_Tokens_wordKind_56 s0 S = some (x, S')) : go_r tb_P L xs 0 22 56 [] [.int s0] (wd_k S) (.inl (some (.int x)), wd_k S') := by
  unfold fn_Tokens_wordKind_56 at h
  cases h
  exact bk_t tb_c_22_0 rfl rfl
/-- Specialiser$Tokens.wordKind(J)I -/
noncomputable def fn_Tokens_wordKind (p0 : Int64) (S : wd_S) : Option (Int32 × wd_S) :=
  (if (lg_cmp p0 (26982 : Int64)) = 0 then
    some ((4 : Int32), S)
  else
    (if (lg_cmp p0 (26990 : Int64)) = 0 then
      some ((13 : Int32), S)
    else
      (if (lg_cmp p0 (7103860 : Int64)) = 0 then
        some ((3 : Int32), S)
      else
        (if (lg_cmp p0 (1952998766 : Int64)) = 0 then
          some ((11 : Int32), S)
        else
          (if (lg_cmp p0 (1701606245 : Int64)) = 0 then
            fn_Tokens_wordKind_56 (12 : Int32) S
          else
            fn_Tokens_wordKind_56 (2 : Int32) S)))))
set_option maxRecDepth 100000 in
theorem sn_Tokens_wordKind {L : Nat} {xs : Nat → Int32} {p0 : Int64} {S : wd_S} {x : Int32} {S' : wd_S} (h : fn_Tokens_wordKind p0 S = some (x, S')) : ev_r tb_P L xs (0 + 1) 22 [.long p0] (wd_k S) (.inl (some (.int x)), wd_k S') := by
  unfold fn_Tokens_wordKind at h
  refine ev_of (Nat.le_of_ble_eq_true rfl) ?_
  show go_r tb_P L xs 0 22 0 [(0, .long p0)] [] (wd_k S) (.inl (some (.int x)), wd_k S')
  refine bk_b (q := (1, [(0, .long p0)], [.long p0])) tb_c_22_0 mx_22 1 rfl ?_
  refine bk_c8 tb_c_22_0 rfl rfl (x := (26982 : Int64)) rfl ?_
  refine bk_b (q := (5, [(0, .long p0)], [.int (lg_cmp p0 (26982 : Int64))])) tb_c_22_0 mx_22 1 rfl ?_
  by_cases g1 : (lg_cmp p0 (26982 : Int64)) = 0
  · rw [if_pos g1] at h
    refine bk_zf tb_c_22_0 rfl (pc' := 8) rfl (t := 10) rfl (cm_ne_f g1) ?_
    refine bk_b (q := (9, [(0, .long p0)], [.int (4 : Int32)])) tb_c_22_0 mx_22 1 rfl ?_
    cases h
    exact bk_t tb_c_22_0 rfl rfl
  · rw [if_neg g1] at h
    refine bk_zt tb_c_22_0 rfl (pc' := 10) rfl (cm_ne_t g1) ?_
    refine bk_b (q := (11, [(0, .long p0)], [.long p0])) tb_c_22_0 mx_22 1 rfl ?_
    refine bk_c8 tb_c_22_0 rfl rfl (x := (26990 : Int64)) rfl ?_
    refine bk_b (q := (15, [(0, .long p0)], [.int (lg_cmp p0 (26990 : Int64))])) tb_c_22_0 mx_22 1 rfl ?_
    by_cases g2 : (lg_cmp p0 (26990 : Int64)) = 0
    · rw [if_pos g2] at h
      refine bk_zf tb_c_22_0 rfl (pc' := 18) rfl (t := 21) rfl (cm_ne_f g2) ?_
      refine bk_b (q := (20, [(0, .long p0)], [.int (13 : Int32)])) tb_c_22_0 mx_22 1 rfl ?_
      cases h
      exact bk_t tb_c_22_0 rfl rfl
    · rw [if_neg g2] at h
      refine bk_zt tb_c_22_0 rfl (pc' := 21) rfl (cm_ne_t g2) ?_
      refine bk_b (q := (22, [(0, .long p0)], [.long p0])) tb_c_22_0 mx_22 1 rfl ?_
      refine bk_c8 tb_c_22_0 rfl rfl (x := (7103860 : Int64)) rfl ?_
      refine bk_b (q := (26, [(0, .long p0)], [.int (lg_cmp p0 (7103860 : Int64))])) tb_c_22_0 mx_22 1 rfl ?_
      by_cases g3 : (lg_cmp p0 (7103860 : Int64)) = 0
      · rw [if_pos g3] at h
        refine bk_zf tb_c_22_0 rfl (pc' := 29) rfl (t := 31) rfl (cm_ne_f g3) ?_
        refine bk_b (q := (30, [(0, .long p0)], [.int (3 : Int32)])) tb_c_22_0 mx_22 1 rfl ?_
        cases h
        exact bk_t tb_c_22_0 rfl rfl
      · rw [if_neg g3] at h
        refine bk_zt tb_c_22_0 rfl (pc' := 31) rfl (cm_ne_t g3) ?_
        refine bk_b (q := (32, [(0, .long p0)], [.long p0])) tb_c_22_0 mx_22 1 rfl ?_
        refine bk_c8 tb_c_22_0 rfl rfl (x := (1952998766 : Int64)) rfl ?_
        refine bk_b (q := (36, [(0, .long p0)], [.int (lg_cmp p0 (1952998766 : Int64))])) tb_c_22_0 mx_22 1 rfl ?_
        by_cases g4 : (lg_cmp p0 (1952998766 : Int64)) = 0
        · rw [if_pos g4] at h
          refine bk_zf tb_c_22_0 rfl (pc' := 39) rfl (t := 42) rfl (cm_ne_f g4) ?_
          refine bk_b (q := (41, [(0, .long p0)], [.int (11 : Int32)])) tb_c_22_0 mx_22 1 rfl ?_
          cases h
          exact bk_t tb_c_22_0 rfl rfl
        · rw [if_neg g4] at h
          refine bk_zt tb_c_22_0 rfl (pc' := 42) rfl (cm_ne_t g4) ?_
          refine bk_b (q := (43, [(0, .long p0)], [.long p0])) tb_c_22_0 mx_22 1 rfl ?_
          refine bk_c8 tb_c_22_0 rfl rfl (x := (1701606245 : Int64)) rfl ?_
          refine bk_b (q := (47, [(0, .long p0)], [.int (lg_cmp p0 (1701606245 : Int64))])) tb_c_22_0 mx_22 1 rfl ?_
          by_cases g5 : (lg_cmp p0 (1701606245 : Int64)) = 0
          · rw [if_pos g5] at h
            refine bk_zf tb_c_22_0 rfl (pc' := 50) rfl (t := 55) rfl (cm_ne_f g5) ?_
            refine bk_b (q := (56, [(0, .long p0)], [.int (12 : Int32)])) tb_c_22_0 mx_22 2 rfl ?_
            exact go_lv ls_nil (sn_Tokens_wordKind_56 h)
          · rw [if_neg g5] at h
            refine bk_zt tb_c_22_0 rfl (pc' := 55) rfl (cm_ne_t g5) ?_
            refine bk_b (q := (56, [(0, .long p0)], [.int (2 : Int32)])) tb_c_22_0 mx_22 1 rfl ?_
            exact go_lv ls_nil (sn_Tokens_wordKind_56 h)
theorem mx_24 : mi_mx tb_P 24 = 4 := rfl
noncomputable def fn_LongRow_put_20 (S : wd_S) : Option wd_S :=
  some S
set_option maxRecDepth 100000 in
theorem sn_LongRow_put_20 {L : Nat} {xs : Nat → Int32} {S : wd_S} {S' : wd_S} (h : fn_LongRow_put_20  S = some S') : go_r tb_P L xs 0 24 20 [] [] (wd_k S) (.inl none, wd_k S') := by
  unfold fn_LongRow_put_20 at h
  cases h
  exact bk_t tb_c_24_0 rfl rfl
/-- Specialiser$LongRow.put(IJ)V -/
noncomputable def fn_LongRow_put (p0 : Nat) (p1 : Int32) (p2 : Int64) (S : wd_S) : Option wd_S :=
  (if p1 < 0 then
    fn_LongRow_put_20  S
  else
    (if p1 < (Int32.ofNat (tp_t (p0 + 1)).2) then
      (if p1 < 0 ∨ (tp_t (p0 + 1)).2 ≤ p1.toNatClampNeg then none else
      (wd_b (wd_l S (p0 + 1) p1.toNatClampNeg p2) fun S4 =>
      fn_LongRow_put_20  S4))
    else
      fn_LongRow_put_20  S))
set_option maxRecDepth 100000 in
theorem sn_LongRow_put {L : Nat} {xs : Nat → Int32} {p0 : Nat} {p1 : Int32} {p2 : Int64} {S : wd_S} {S' : wd_S} (hp0 : tp_t p0 = (0, 1)) (h : fn_LongRow_put p0 p1 p2 S = some S') : ev_r tb_P L xs (0 + 1) 24 [.ref p0, .int p1, .long p2] (wd_k S) (.inl none, wd_k S') := by
  unfold fn_LongRow_put at h
  refine ev_of (Nat.le_of_ble_eq_true rfl) ?_
  show go_r tb_P L xs 0 24 0 [(0, .ref p0), (1, .int p1), (2, .long p2)] [] (wd_k S) (.inl none, wd_k S')
  refine bk_b (q := (1, [(0, .ref p0), (1, .int p1), (2, .long p2)], [.int p1])) tb_c_24_0 mx_24 1 rfl ?_
  by_cases g1 : p1 < 0
  · rw [if_pos g1] at h
    refine bk_zt tb_c_24_0 rfl (pc' := 20) rfl (cm_lt_t g1) ?_
    exact go_lv ls_nil (sn_LongRow_put_20 h)
  · rw [if_neg g1] at h
    refine bk_zf tb_c_24_0 rfl (pc' := 4) rfl (t := 20) rfl (cm_lt_f g1) ?_
    refine bk_b (q := (6, [(0, .ref p0), (1, .int p1), (2, .long p2)], [.ref p0, .int p1])) tb_c_24_0 mx_24 2 rfl ?_
    refine bk_go tb_c_24_0 rfl rfl (ci := 1) (k := 0) rfl hp0 rfl ?_
    refine bk_al tb_c_24_0 rfl rfl (tp_1_0 hp0) (by decide) ?_
    by_cases g2 : p1 < (Int32.ofNat (tp_t (p0 + 1)).2)
    · rw [if_pos g2] at h
      refine bk_jf tb_c_24_0 rfl (pc' := 13) rfl (t := 20) rfl (cm_ge_f g2) ?_
      refine bk_b (q := (14, [(0, .ref p0), (1, .int p1), (2, .long p2)], [.ref p0])) tb_c_24_0 mx_24 1 rfl ?_
      refine bk_go tb_c_24_0 rfl rfl (ci := 1) (k := 0) rfl hp0 rfl ?_
      refine bk_b (q := (19, [(0, .ref p0), (1, .int p1), (2, .long p2)], [.long p2, .int p1, .ref (p0 + 1)])) tb_c_24_0 mx_24 2 rfl ?_
      by_cases g3 : p1 < 0 ∨ (tp_t (p0 + 1)).2 ≤ p1.toNatClampNeg
      · rw [if_pos g3] at h; cases h
      · rw [if_neg g3] at h
        obtain ⟨S4, eS4, h⟩ := wd_bx h
        refine bk_s8 tb_c_24_0 rfl rfl (tp_1_0 hp0) g3 ?_
        rw [eS4]
        exact go_lv ls_nil (sn_LongRow_put_20 h)
    · rw [if_neg g2] at h
      refine bk_jt tb_c_24_0 rfl (pc' := 20) rfl (cm_ge_t g2) ?_
      exact go_lv ls_nil (sn_LongRow_put_20 h)
theorem mx_23 : mi_mx tb_P 23 = 5 := rfl
/-- Specialiser$Tokens.keep(IJI)I -/
noncomputable def fn_Tokens_keep (p1 : Int32) (p2 : Int64) (p4 : Int32) (S : wd_S) : Option (Int32 × wd_S) :=
  (wd_d (fn_Row_put 5 (S.1 4 5) p1 S) fun S1 =>
  (wd_d (fn_LongRow_put 9 (S1.1 4 5) p2 S1) fun S4 =>
  (wd_b (wd_i S4 4 5 ((S4.1 4 5) + (1 : Int32))) fun S7 =>
  some (p4, S7))))
set_option maxRecDepth 100000 in
theorem sn_Tokens_keep {L : Nat} {xs : Nat → Int32} {p1 : Int32} {p2 : Int64} {p4 : Int32} {S : wd_S} {x : Int32} {S' : wd_S} (h : fn_Tokens_keep p1 p2 p4 S = some (x, S')) : ev_r tb_P L xs (1 + 1) 23 [.ref 4, .int p1, .long p2, .int p4] (wd_k S) (.inl (some (.int x)), wd_k S') := by
  unfold fn_Tokens_keep at h
  refine ev_of (Nat.le_of_ble_eq_true rfl) ?_
  show go_r tb_P L xs 1 23 0 [(0, .ref 4), (1, .int p1), (2, .long p2), (4, .int p4)] [] (wd_k S) (.inl (some (.int x)), wd_k S')
  refine bk_b (q := (1, [(0, .ref 4), (1, .int p1), (2, .long p2), (4, .int p4)], [.ref 4])) tb_c_23_0 mx_23 1 rfl ?_
  refine bk_gc tb_c_23_0 rfl rfl (ci := 7) (k := 1) rfl rfl rfl ?_
  refine bk_b (q := (5, [(0, .ref 4), (1, .int p1), (2, .long p2), (4, .int p4)], [.ref 4, .ref 5])) tb_c_23_0 mx_23 1 rfl ?_
  refine bk_gi tb_c_23_0 rfl rfl (ci := 7) (k := 5) rfl rfl rfl ?_
  refine bk_b (q := (9, [(0, .ref 4), (1, .int p1), (2, .long p2), (4, .int p4)], [.int p1, .int (S.1 4 5), .ref 5])) tb_c_23_0 mx_23 1 rfl ?_
  obtain ⟨S1, c3, h⟩ := wd_dx h
  refine bk_kv tb_c_23_0 rfl rfl rfl rfl rfl (ci := 5) rfl rfl (ev_up (Nat.le_of_ble_eq_true rfl) (sn_Row_put rfl c3)) ?_
  refine bk_b (q := (13, [(0, .ref 4), (1, .int p1), (2, .long p2), (4, .int p4)], [.ref 4])) tb_c_23_0 mx_23 1 rfl ?_
  refine bk_gc tb_c_23_0 rfl rfl (ci := 7) (k := 3) rfl rfl rfl ?_
  refine bk_b (q := (17, [(0, .ref 4), (1, .int p1), (2, .long p2), (4, .int p4)], [.ref 4, .ref 9])) tb_c_23_0 mx_23 1 rfl ?_
  refine bk_gi tb_c_23_0 rfl rfl (ci := 7) (k := 5) rfl rfl rfl ?_
  refine bk_b (q := (21, [(0, .ref 4), (1, .int p1), (2, .long p2), (4, .int p4)], [.long p2, .int (S1.1 4 5), .ref 9])) tb_c_23_0 mx_23 1 rfl ?_
  obtain ⟨S4, c6, h⟩ := wd_dx h
  refine bk_kv tb_c_23_0 rfl rfl rfl rfl rfl (ci := 1) rfl rfl (ev_up (Nat.le_of_ble_eq_true rfl) (sn_LongRow_put rfl c6)) ?_
  refine bk_b (q := (26, [(0, .ref 4), (1, .int p1), (2, .long p2), (4, .int p4)], [.ref 4, .ref 4])) tb_c_23_0 mx_23 2 rfl ?_
  refine bk_gi tb_c_23_0 rfl rfl (ci := 7) (k := 5) rfl rfl rfl ?_
  refine bk_b (q := (31, [(0, .ref 4), (1, .int p1), (2, .long p2), (4, .int p4)], [.int ((S4.1 4 5) + (1 : Int32)), .ref 4])) tb_c_23_0 mx_23 2 rfl ?_
  obtain ⟨S7, eS7, h⟩ := wd_bx h
  refine bk_pi tb_c_23_0 rfl rfl (ci := 7) (k := 5) rfl rfl rfl rfl ?_
  rw [eS7]
  refine bk_b (q := (36, [(0, .ref 4), (1, .int p1), (2, .long p2), (4, .int p4)], [.int p4])) tb_c_23_0 mx_23 1 rfl ?_
  cases h
  exact bk_t tb_c_23_0 rfl rfl
theorem mx_21 : mi_mx tb_P 21 = 10 := rfl
noncomputable def fn_Tokens_scanRow_216 (s0 : Int32) (S : wd_S) : Option (Int32 × wd_S) :=
  some (s0, S)
set_option maxRecDepth 100000 in
theorem sn_Tokens_scanRow_216 {L : Nat} {xs : Nat → Int32} {s0 : Int32} {S : wd_S} {x : Int32} {S' : wd_S} (h : fn_Tokens_scanRow_216 s0 S = some (x, S')) : go_r tb_P L xs 2 21 216 [] [.int s0] (wd_k S) (.inl (some (.int x)), wd_k S') := by
  unfold fn_Tokens_scanRow_216 at h
  cases h
  exact bk_t tb_c_21_2 rfl rfl
noncomputable def fn_Tokens_scanRow_188 (l4 : Int64) (l8 : Int32) (s0 : Int32) (S : wd_S) : Option (Int32 × wd_S) :=
  (if s0 = 0 then
    (wd_c (fn_Tokens_keep (19 : Int32) (0 : Int64) l8 S) fun x12 S11 =>
    fn_Tokens_scanRow_216 x12 S11)
  else
    (wd_c (fn_Tokens_keep (1 : Int32) l4 l8 S) fun x15 S14 =>
    fn_Tokens_scanRow_216 x15 S14))
set_option maxRecDepth 100000 in
theorem sn_Tokens_scanRow_188 {L : Nat} {xs : Nat → Int32} {l4 : Int64} {l8 : Int32} {s0 : Int32} {S : wd_S} {x : Int32} {S' : wd_S} (h : fn_Tokens_scanRow_188 l4 l8 s0 S = some (x, S')) : go_r tb_P L xs 2 21 188 [(0, .ref 4), (4, .long l4), (8, .int l8)] [.int s0] (wd_k S) (.inl (some (.int x)), wd_k S') := by
  unfold fn_Tokens_scanRow_188 at h
  refine bk_b (q := (192, [(9, .int s0), (0, .ref 4), (4, .long l4), (8, .int l8)], [.int s0])) tb_c_21_2 mx_21 2 rfl ?_
  by_cases g10 : s0 = 0
  · rw [if_pos g10] at h
    refine bk_zt tb_c_21_2 rfl (pc' := 207) rfl (cm_eq_t g10) ?_
    refine bk_b (q := (213, [(9, .int s0), (0, .ref 4), (4, .long l4), (8, .int l8)], [.int l8, .long (0 : Int64), .int (19 : Int32), .ref 4])) tb_c_21_2 mx_21 4 rfl ?_
    obtain ⟨x12, S11, c13, h⟩ := wd_cx h
    refine bk_kv tb_c_21_2 rfl rfl rfl rfl rfl (ci := 7) rfl rfl (ev_up (Nat.le_of_ble_eq_true rfl) (sn_Tokens_keep c13)) ?_
    exact go_lv ls_nil (sn_Tokens_scanRow_216 h)
  · rw [if_neg g10] at h
    refine bk_zf tb_c_21_2 rfl (pc' := 195) rfl (t := 207) rfl (cm_eq_f g10) ?_
    refine bk_b (q := (201, [(9, .int s0), (0, .ref 4), (4, .long l4), (8, .int l8)], [.int l8, .long l4, .int (1 : Int32), .ref 4])) tb_c_21_2 mx_21 4 rfl ?_
    obtain ⟨x15, S14, c16, h⟩ := wd_cx h
    refine bk_kv tb_c_21_2 rfl rfl rfl rfl rfl (ci := 7) rfl rfl (ev_up (Nat.le_of_ble_eq_true rfl) (sn_Tokens_keep c16)) ?_
    refine bk_b (q := (216, [(9, .int s0), (0, .ref 4), (4, .long l4), (8, .int l8)], [.int x15])) tb_c_21_2 mx_21 1 rfl ?_
    exact go_lv ls_nil (sn_Tokens_scanRow_216 h)
noncomputable def fn_Tokens_scanRow_187 (l4 : Int64) (l8 : Int32) (S : wd_S) : Option (Int32 × wd_S) :=
  fn_Tokens_scanRow_188 l4 l8 (0 : Int32) S
set_option maxRecDepth 100000 in
theorem sn_Tokens_scanRow_187 {L : Nat} {xs : Nat → Int32} {l4 : Int64} {l8 : Int32} {S : wd_S} {x : Int32} {S' : wd_S} (h : fn_Tokens_scanRow_187 l4 l8 S = some (x, S')) : go_r tb_P L xs 2 21 187 [(0, .ref 4), (4, .long l4), (8, .int l8)] [] (wd_k S) (.inl (some (.int x)), wd_k S') := by
  unfold fn_Tokens_scanRow_187 at h
  refine bk_b (q := (188, [(0, .ref 4), (4, .long l4), (8, .int l8)], [.int (0 : Int32)])) tb_c_21_2 mx_21 1 rfl ?_
  exact go_lv (ls_sc rfl rfl (ls_sc rfl rfl (ls_sc rfl rfl ls_nil))) (sn_Tokens_scanRow_188 h)
noncomputable def fn_Tokens_scanRow_161 (s0 : Int32) (S : wd_S) : Option (Int32 × wd_S) :=
  some (s0, S)
set_option maxRecDepth 100000 in
theorem sn_Tokens_scanRow_161 {L : Nat} {xs : Nat → Int32} {s0 : Int32} {S : wd_S} {x : Int32} {S' : wd_S} (h : fn_Tokens_scanRow_161 s0 S = some (x, S')) : go_r tb_P L xs 2 21 161 [] [.int s0] (wd_k S) (.inl (some (.int x)), wd_k S') := by
  unfold fn_Tokens_scanRow_161 at h
  cases h
  exact bk_t tb_c_21_2 rfl rfl
noncomputable def fn_Tokens_scanRow_111 (l1 : Int32) (l2 : Int64) (l4 : Int64) (l6 : Int32) (l7 : Int32) (S : wd_S) : Option (Int32 × wd_S) :=
  (wd_c (fn_Row_at 2 l1 S) fun x3 S2 =>
  (wd_c (fn_Tokens_isLetter x3 S2) fun x6 S5 =>
  (if x6 = 0 then
    (if l6 = 0 then
      fn_Tokens_scanRow_187 l4 (l7 - l1) S5
    else
      (if (10 : Int32) < (l7 - l1) then
        fn_Tokens_scanRow_187 l4 (l7 - l1) S5
      else
        (if 0 < (lg_cmp l4 (2147483647 : Int64)) then
          fn_Tokens_scanRow_187 l4 (l7 - l1) S5
        else
          fn_Tokens_scanRow_188 l4 (l7 - l1) (1 : Int32) S5)))
  else
    (if (8 : Int32) < (l7 - l1) then
      (wd_c (fn_Tokens_keep (19 : Int32) (0 : Int64) (l7 - l1) S5) fun x21 S20 =>
      fn_Tokens_scanRow_161 x21 S20)
    else
      (wd_c (fn_Tokens_wordKind l2 S5) fun x24 S23 =>
      (wd_c (fn_Tokens_keep x24 l2 (l7 - l1) S23) fun x27 S26 =>
      fn_Tokens_scanRow_161 x27 S26))))))
set_option maxRecDepth 100000 in
theorem sn_Tokens_scanRow_111 {L : Nat} {xs : Nat → Int32} {l1 : Int32} {l2 : Int64} {l4 : Int64} {l6 : Int32} {l7 : Int32} {S : wd_S} {x : Int32} {S' : wd_S} (h : fn_Tokens_scanRow_111 l1 l2 l4 l6 l7 S = some (x, S')) : go_r tb_P L xs 2 21 111 [(0, .ref 4), (1, .int l1), (2, .long l2), (4, .long l4), (6, .int l6), (7, .int l7)] [] (wd_k S) (.inl (some (.int x)), wd_k S') := by
  unfold fn_Tokens_scanRow_111 at h
  refine bk_b (q := (118, [(8, .int (l7 - l1)), (0, .ref 4), (1, .int l1), (2, .long l2), (4, .long l4), (6, .int l6), (7, .int l7)], [.ref 4])) tb_c_21_1 mx_21 5 rfl ?_
  refine bk_gc tb_c_21_1 rfl rfl (ci := 7) (k := 0) rfl rfl rfl ?_
  refine bk_b (q := (122, [(8, .int (l7 - l1)), (0, .ref 4), (1, .int l1), (2, .long l2), (4, .long l4), (6, .int l6), (7, .int l7)], [.int l1, .ref 2])) tb_c_21_1 mx_21 1 rfl ?_
  obtain ⟨x3, S2, c4, h⟩ := wd_cx h
  refine bk_kv tb_c_21_1 rfl rfl rfl rfl rfl (ci := 5) rfl rfl (ev_up (Nat.le_of_ble_eq_true rfl) (sn_Row_at rfl c4)) ?_
  obtain ⟨x6, S5, c7, h⟩ := wd_cx h
  refine bk_ks tb_c_21_1 rfl rfl rfl (by decide) rfl rfl (ev_up (Nat.le_of_ble_eq_true rfl) (sn_Tokens_isLetter c7)) ?_
  by_cases g8 : x6 = 0
  · rw [if_pos g8] at h
    refine bk_zt tb_c_21_1 rfl (pc' := 162) rfl (cm_eq_t g8) ?_
    refine bk_b (q := (164, [(8, .int (l7 - l1)), (0, .ref 4), (1, .int l1), (2, .long l2), (4, .long l4), (6, .int l6), (7, .int l7)], [.int l6])) tb_c_21_2 mx_21 1 rfl ?_
    by_cases g9 : l6 = 0
    · rw [if_pos g9] at h
      refine bk_zt tb_c_21_2 rfl (pc' := 187) rfl (cm_eq_t g9) ?_
      exact go_lv (ls_sc rfl rfl (ls_sc rfl rfl (ls_sc rfl rfl ls_nil))) (sn_Tokens_scanRow_187 h)
    · rw [if_neg g9] at h
      refine bk_zf tb_c_21_2 rfl (pc' := 167) rfl (t := 187) rfl (cm_eq_f g9) ?_
      refine bk_b (q := (171, [(8, .int (l7 - l1)), (0, .ref 4), (1, .int l1), (2, .long l2), (4, .long l4), (6, .int l6), (7, .int l7)], [.int (10 : Int32), .int (l7 - l1)])) tb_c_21_2 mx_21 2 rfl ?_
      by_cases g17 : (10 : Int32) < (l7 - l1)
      · rw [if_pos g17] at h
        refine bk_jt tb_c_21_2 rfl (pc' := 187) rfl (cm_gt_t g17) ?_
        exact go_lv (ls_sc rfl rfl (ls_sc rfl rfl (ls_sc rfl rfl ls_nil))) (sn_Tokens_scanRow_187 h)
      · rw [if_neg g17] at h
        refine bk_jf tb_c_21_2 rfl (pc' := 174) rfl (t := 187) rfl (cm_gt_f g17) ?_
        refine bk_b (q := (176, [(8, .int (l7 - l1)), (0, .ref 4), (1, .int l1), (2, .long l2), (4, .long l4), (6, .int l6), (7, .int l7)], [.long l4])) tb_c_21_2 mx_21 1 rfl ?_
        refine bk_c8 tb_c_21_2 rfl rfl (x := (2147483647 : Int64)) rfl ?_
        refine bk_b (q := (180, [(8, .int (l7 - l1)), (0, .ref 4), (1, .int l1), (2, .long l2), (4, .long l4), (6, .int l6), (7, .int l7)], [.int (lg_cmp l4 (2147483647 : Int64))])) tb_c_21_2 mx_21 1 rfl ?_
        by_cases g18 : 0 < (lg_cmp l4 (2147483647 : Int64))
        · rw [if_pos g18] at h
          refine bk_zt tb_c_21_2 rfl (pc' := 187) rfl (cm_gt_t g18) ?_
          exact go_lv (ls_sc rfl rfl (ls_sc rfl rfl (ls_sc rfl rfl ls_nil))) (sn_Tokens_scanRow_187 h)
        · rw [if_neg g18] at h
          refine bk_zf tb_c_21_2 rfl (pc' := 183) rfl (t := 187) rfl (cm_gt_f g18) ?_
          refine bk_b (q := (188, [(8, .int (l7 - l1)), (0, .ref 4), (1, .int l1), (2, .long l2), (4, .long l4), (6, .int l6), (7, .int l7)], [.int (1 : Int32)])) tb_c_21_2 mx_21 2 rfl ?_
          exact go_lv (ls_sc rfl rfl (ls_sc rfl rfl (ls_sc rfl rfl ls_nil))) (sn_Tokens_scanRow_188 h)
  · rw [if_neg g8] at h
    refine bk_zf tb_c_21_1 rfl (pc' := 131) rfl (t := 162) rfl (cm_eq_f g8) ?_
    refine bk_b (q := (135, [(8, .int (l7 - l1)), (0, .ref 4), (1, .int l1), (2, .long l2), (4, .long l4), (6, .int l6), (7, .int l7)], [.int (8 : Int32), .int (l7 - l1)])) tb_c_21_1 mx_21 2 rfl ?_
    by_cases g19 : (8 : Int32) < (l7 - l1)
    · rw [if_pos g19] at h
      refine bk_jt tb_c_21_1 rfl (pc' := 152) rfl (cm_gt_t g19) ?_
      refine bk_b (q := (158, [(8, .int (l7 - l1)), (0, .ref 4), (1, .int l1), (2, .long l2), (4, .long l4), (6, .int l6), (7, .int l7)], [.int (l7 - l1), .long (0 : Int64), .int (19 : Int32), .ref 4])) tb_c_21_1 mx_21 4 rfl ?_
      obtain ⟨x21, S20, c22, h⟩ := wd_cx h
      refine bk_kv tb_c_21_2 rfl rfl rfl rfl rfl (ci := 7) rfl rfl (ev_up (Nat.le_of_ble_eq_true rfl) (sn_Tokens_keep c22)) ?_
      exact go_lv ls_nil (sn_Tokens_scanRow_161 h)
    · rw [if_neg g19] at h
      refine bk_jf tb_c_21_1 rfl (pc' := 138) rfl (t := 152) rfl (cm_gt_f g19) ?_
      refine bk_b (q := (140, [(8, .int (l7 - l1)), (0, .ref 4), (1, .int l1), (2, .long l2), (4, .long l4), (6, .int l6), (7, .int l7)], [.long l2, .ref 4])) tb_c_21_1 mx_21 2 rfl ?_
      obtain ⟨x24, S23, c25, h⟩ := wd_cx h
      refine bk_ks tb_c_21_1 rfl rfl rfl (by decide) rfl rfl (ev_up (Nat.le_of_ble_eq_true rfl) (sn_Tokens_wordKind c25)) ?_
      refine bk_b (q := (146, [(8, .int (l7 - l1)), (0, .ref 4), (1, .int l1), (2, .long l2), (4, .long l4), (6, .int l6), (7, .int l7)], [.int (l7 - l1), .long l2, .int x24, .ref 4])) tb_c_21_1 mx_21 2 rfl ?_
      obtain ⟨x27, S26, c28, h⟩ := wd_cx h
      refine bk_kv tb_c_21_1 rfl rfl rfl rfl rfl (ci := 7) rfl rfl (ev_up (Nat.le_of_ble_eq_true rfl) (sn_Tokens_keep c28)) ?_
      refine bk_b (q := (161, [(8, .int (l7 - l1)), (0, .ref 4), (1, .int l1), (2, .long l2), (4, .long l4), (6, .int l6), (7, .int l7)], [.int x27])) tb_c_21_1 mx_21 1 rfl ?_
      exact go_lv ls_nil (sn_Tokens_scanRow_161 h)
noncomputable def fn_Tokens_scanRow_103 (kk11 : Int32 → Int64 → Int64 → Int32 → Int32 → wd_S → Option (Int32 × wd_S)) (l1 : Int32) (l2 : Int64) (l4 : Int64) (l7 : Int32) (s0 : Int32) (S : wd_S) : Option (Int32 × wd_S) :=
  kk11 l1 l2 l4 s0 (l7 + (1 : Int32)) S
set_option maxRecDepth 100000 in
theorem sn_Tokens_scanRow_103 {L : Nat} {xs : Nat → Int32} {kk11 : Int32 → Int64 → Int64 → Int32 → Int32 → wd_S → Option (Int32 × wd_S)} (hk11 : ∀ {l1 : Int32} {l2 : Int64} {l4 : Int64} {l6 : Int32} {l7 : Int32} {S : wd_S} {x : Int32} {S' : wd_S}, kk11 l1 l2 l4 l6 l7 S = some (x, S') → go_r tb_P L xs 2 21 11 [(0, .ref 4), (1, .int l1), (2, .long l2), (4, .long l4), (6, .int l6), (7, .int l7)] [] (wd_k S) (.inl (some (.int x)), wd_k S')) {l1 : Int32} {l2 : Int64} {l4 : Int64} {l7 : Int32} {s0 : Int32} {S : wd_S} {x : Int32} {S' : wd_S} (h : fn_Tokens_scanRow_103 kk11 l1 l2 l4 l7 s0 S = some (x, S')) : go_r tb_P L xs 2 21 103 [(0, .ref 4), (1, .int l1), (2, .long l2), (4, .long l4), (7, .int l7)] [.int s0] (wd_k S) (.inl (some (.int x)), wd_k S') := by
  unfold fn_Tokens_scanRow_103 at h
  refine bk_b (q := (11, [(7, .int (l7 + (1 : Int32))), (6, .int s0), (0, .ref 4), (1, .int l1), (2, .long l2), (4, .long l4)], [])) tb_c_21_1 mx_21 3 rfl ?_
  exact go_lv (ls_sc rfl rfl (ls_sc rfl rfl (ls_sc rfl rfl (ls_sc rfl rfl (ls_sc rfl rfl (ls_sc rfl rfl ls_nil)))))) (hk11 h)
noncomputable def fn_Tokens_scanRow_102 (kk11 : Int32 → Int64 → Int64 → Int32 → Int32 → wd_S → Option (Int32 × wd_S)) (l1 : Int32) (l2 : Int64) (l4 : Int64) (l7 : Int32) (S : wd_S) : Option (Int32 × wd_S) :=
  fn_Tokens_scanRow_103 kk11 l1 l2 l4 l7 (0 : Int32) S
set_option maxRecDepth 100000 in
theorem sn_Tokens_scanRow_102 {L : Nat} {xs : Nat → Int32} {kk11 : Int32 → Int64 → Int64 → Int32 → Int32 → wd_S → Option (Int32 × wd_S)} (hk11 : ∀ {l1 : Int32} {l2 : Int64} {l4 : Int64} {l6 : Int32} {l7 : Int32} {S : wd_S} {x : Int32} {S' : wd_S}, kk11 l1 l2 l4 l6 l7 S = some (x, S') → go_r tb_P L xs 2 21 11 [(0, .ref 4), (1, .int l1), (2, .long l2), (4, .long l4), (6, .int l6), (7, .int l7)] [] (wd_k S) (.inl (some (.int x)), wd_k S')) {l1 : Int32} {l2 : Int64} {l4 : Int64} {l7 : Int32} {S : wd_S} {x : Int32} {S' : wd_S} (h : fn_Tokens_scanRow_102 kk11 l1 l2 l4 l7 S = some (x, S')) : go_r tb_P L xs 2 21 102 [(0, .ref 4), (1, .int l1), (2, .long l2), (4, .long l4), (7, .int l7)] [] (wd_k S) (.inl (some (.int x)), wd_k S') := by
  unfold fn_Tokens_scanRow_102 at h
  refine bk_b (q := (103, [(0, .ref 4), (1, .int l1), (2, .long l2), (4, .long l4), (7, .int l7)], [.int (0 : Int32)])) tb_c_21_1 mx_21 1 rfl ?_
  exact go_lv (ls_sc rfl rfl (ls_sc rfl rfl (ls_sc rfl rfl (ls_sc rfl rfl (ls_sc rfl rfl ls_nil))))) (sn_Tokens_scanRow_103 hk11 h)
noncomputable def fn_Tokens_scanRow_50 (kk11 : Int32 → Int64 → Int64 → Int32 → Int32 → wd_S → Option (Int32 × wd_S)) (l1 : Int32) (l2 : Int64) (l4 : Int64) (l6 : Int32) (l7 : Int32) (S : wd_S) : Option (Int32 × wd_S) :=
  (wd_c (fn_Row_at 2 l7 S) fun x37 S36 =>
  (if l6 = 0 then
    fn_Tokens_scanRow_102 kk11 l1 ((l2 <<< (((8 : Int32)).toInt64 &&& 63)) ||| ((x37).toInt64)) ((l4 * (10 : Int64)) + (((x37 - (48 : Int32))).toInt64)) l7 S36
  else
    (wd_c (fn_Tokens_isDigit x37 S36) fun x41 S40 =>
    (if x41 = 0 then
      fn_Tokens_scanRow_102 kk11 l1 ((l2 <<< (((8 : Int32)).toInt64 &&& 63)) ||| ((x37).toInt64)) ((l4 * (10 : Int64)) + (((x37 - (48 : Int32))).toInt64)) l7 S40
    else
      fn_Tokens_scanRow_103 kk11 l1 ((l2 <<< (((8 : Int32)).toInt64 &&& 63)) ||| ((x37).toInt64)) ((l4 * (10 : Int64)) + (((x37 - (48 : Int32))).toInt64)) l7 (1 : Int32) S40))))
set_option maxRecDepth 100000 in
theorem sn_Tokens_scanRow_50 {L : Nat} {xs : Nat → Int32} {kk11 : Int32 → Int64 → Int64 → Int32 → Int32 → wd_S → Option (Int32 × wd_S)} (hk11 : ∀ {l1 : Int32} {l2 : Int64} {l4 : Int64} {l6 : Int32} {l7 : Int32} {S : wd_S} {x : Int32} {S' : wd_S}, kk11 l1 l2 l4 l6 l7 S = some (x, S') → go_r tb_P L xs 2 21 11 [(0, .ref 4), (1, .int l1), (2, .long l2), (4, .long l4), (6, .int l6), (7, .int l7)] [] (wd_k S) (.inl (some (.int x)), wd_k S')) {l1 : Int32} {l2 : Int64} {l4 : Int64} {l6 : Int32} {l7 : Int32} {S : wd_S} {x : Int32} {S' : wd_S} (h : fn_Tokens_scanRow_50 kk11 l1 l2 l4 l6 l7 S = some (x, S')) : go_r tb_P L xs 2 21 50 [(0, .ref 4), (1, .int l1), (2, .long l2), (4, .long l4), (6, .int l6), (7, .int l7)] [] (wd_k S) (.inl (some (.int x)), wd_k S') := by
  unfold fn_Tokens_scanRow_50 at h
  refine bk_b (q := (51, [(0, .ref 4), (1, .int l1), (2, .long l2), (4, .long l4), (6, .int l6), (7, .int l7)], [.ref 4])) tb_c_21_0 mx_21 1 rfl ?_
  refine bk_gc tb_c_21_0 rfl rfl (ci := 7) (k := 0) rfl rfl rfl ?_
  refine bk_b (q := (56, [(0, .ref 4), (1, .int l1), (2, .long l2), (4, .long l4), (6, .int l6), (7, .int l7)], [.int l7, .ref 2])) tb_c_21_0 mx_21 1 rfl ?_
  obtain ⟨x37, S36, c38, h⟩ := wd_cx h
  refine bk_kv tb_c_21_0 rfl rfl rfl rfl rfl (ci := 5) rfl rfl (ev_up (Nat.le_of_ble_eq_true rfl) (sn_Row_at rfl c38)) ?_
  refine bk_b (q := (72, [(2, .long ((l2 <<< (((8 : Int32)).toInt64 &&& 63)) ||| ((x37).toInt64))), (8, .int x37), (0, .ref 4), (1, .int l1), (4, .long l4), (6, .int l6), (7, .int l7)], [.long l4])) tb_c_21_0 mx_21 9 rfl ?_
  refine bk_c8 tb_c_21_0 rfl rfl (x := (10 : Int64)) rfl ?_
  refine bk_b (q := (78, [(2, .long ((l2 <<< (((8 : Int32)).toInt64 &&& 63)) ||| ((x37).toInt64))), (8, .int x37), (0, .ref 4), (1, .int l1), (4, .long l4), (6, .int l6), (7, .int l7)], [.int x37, .long (l4 * (10 : Int64))])) tb_c_21_0 mx_21 2 rfl ?_
  refine bk_b (q := (87, [(4, .long ((l4 * (10 : Int64)) + (((x37 - (48 : Int32))).toInt64))), (2, .long ((l2 <<< (((8 : Int32)).toInt64 &&& 63)) ||| ((x37).toInt64))), (8, .int x37), (0, .ref 4), (1, .int l1), (6, .int l6), (7, .int l7)], [.int l6])) tb_c_21_1 mx_21 6 rfl ?_
  by_cases g39 : l6 = 0
  · rw [if_pos g39] at h
    refine bk_zt tb_c_21_1 rfl (pc' := 102) rfl (cm_eq_t g39) ?_
    exact go_lv (ls_sc rfl rfl (ls_sc rfl rfl (ls_sc rfl rfl (ls_sc rfl rfl (ls_sc rfl rfl ls_nil))))) (sn_Tokens_scanRow_102 hk11 h)
  · rw [if_neg g39] at h
    refine bk_zf tb_c_21_1 rfl (pc' := 90) rfl (t := 102) rfl (cm_eq_f g39) ?_
    refine bk_b (q := (92, [(4, .long ((l4 * (10 : Int64)) + (((x37 - (48 : Int32))).toInt64))), (2, .long ((l2 <<< (((8 : Int32)).toInt64 &&& 63)) ||| ((x37).toInt64))), (8, .int x37), (0, .ref 4), (1, .int l1), (6, .int l6), (7, .int l7)], [.int x37])) tb_c_21_1 mx_21 1 rfl ?_
    obtain ⟨x41, S40, c42, h⟩ := wd_cx h
    refine bk_ks tb_c_21_1 rfl rfl rfl (by decide) rfl rfl (ev_up (Nat.le_of_ble_eq_true rfl) (sn_Tokens_isDigit c42)) ?_
    by_cases g43 : x41 = 0
    · rw [if_pos g43] at h
      refine bk_zt tb_c_21_1 rfl (pc' := 102) rfl (cm_eq_t g43) ?_
      exact go_lv (ls_sc rfl rfl (ls_sc rfl rfl (ls_sc rfl rfl (ls_sc rfl rfl (ls_sc rfl rfl ls_nil))))) (sn_Tokens_scanRow_102 hk11 h)
    · rw [if_neg g43] at h
      refine bk_zf tb_c_21_1 rfl (pc' := 98) rfl (t := 102) rfl (cm_eq_f g43) ?_
      refine bk_b (q := (103, [(4, .long ((l4 * (10 : Int64)) + (((x37 - (48 : Int32))).toInt64))), (2, .long ((l2 <<< (((8 : Int32)).toInt64 &&& 63)) ||| ((x37).toInt64))), (8, .int x37), (0, .ref 4), (1, .int l1), (6, .int l6), (7, .int l7)], [.int (1 : Int32)])) tb_c_21_1 mx_21 2 rfl ?_
      exact go_lv (ls_sc rfl rfl (ls_sc rfl rfl (ls_sc rfl rfl (ls_sc rfl rfl (ls_sc rfl rfl ls_nil))))) (sn_Tokens_scanRow_103 hk11 h)
noncomputable def fn_Tokens_scanRow_11 : Nat → Int32 → Int64 → Int64 → Int32 → Int32 → wd_S → Option (Int32 × wd_S)
  | 0, _, _, _, _, _, _ => none
  | n + 1, l1, l2, l4, l6, l7, S =>
    (if l7 < (S.1 4 4) then
      (wd_c (fn_Row_at 2 l7 S) fun x30 S29 =>
      (wd_c (fn_Tokens_isLetter x30 S29) fun x33 S32 =>
      (if x33 = 0 then
        (wd_c (fn_Row_at 2 l7 S32) fun x45 S44 =>
        (wd_c (fn_Tokens_isDigit x45 S44) fun x48 S47 =>
        (if x48 = 0 then
          fn_Tokens_scanRow_111 l1 l2 l4 l6 l7 S47
        else
          fn_Tokens_scanRow_50 (fn_Tokens_scanRow_11 n) l1 l2 l4 l6 l7 S47)))
      else
        fn_Tokens_scanRow_50 (fn_Tokens_scanRow_11 n) l1 l2 l4 l6 l7 S32)))
    else
      fn_Tokens_scanRow_111 l1 l2 l4 l6 l7 S)
set_option maxRecDepth 100000 in
theorem sn_Tokens_scanRow_11 {L : Nat} {xs : Nat → Int32} : ∀ (n : Nat) {l1 : Int32} {l2 : Int64} {l4 : Int64} {l6 : Int32} {l7 : Int32} {S : wd_S} {x : Int32} {S' : wd_S}, fn_Tokens_scanRow_11 n l1 l2 l4 l6 l7 S = some (x, S') → go_r tb_P L xs 2 21 11 [(0, .ref 4), (1, .int l1), (2, .long l2), (4, .long l4), (6, .int l6), (7, .int l7)] [] (wd_k S) (.inl (some (.int x)), wd_k S') := by
  intro n
  induction n with
  | zero => intro l1 l2 l4 l6 l7 S x S'  h; cases h
  | succ n ih =>
    intro l1 l2 l4 l6 l7 S x S'  h
    rw [fn_Tokens_scanRow_11] at h
    refine bk_b (q := (14, [(0, .ref 4), (1, .int l1), (2, .long l2), (4, .long l4), (6, .int l6), (7, .int l7)], [.ref 4, .int l7])) tb_c_21_0 mx_21 2 rfl ?_
    refine bk_gi tb_c_21_0 rfl rfl (ci := 7) (k := 4) rfl rfl rfl ?_
    by_cases g1 : l7 < (S.1 4 4)
    · rw [if_pos g1] at h
      refine bk_jf tb_c_21_0 rfl (pc' := 20) rfl (t := 111) rfl (cm_ge_f g1) ?_
      refine bk_b (q := (21, [(0, .ref 4), (1, .int l1), (2, .long l2), (4, .long l4), (6, .int l6), (7, .int l7)], [.ref 4])) tb_c_21_0 mx_21 1 rfl ?_
      refine bk_gc tb_c_21_0 rfl rfl (ci := 7) (k := 0) rfl rfl rfl ?_
      refine bk_b (q := (26, [(0, .ref 4), (1, .int l1), (2, .long l2), (4, .long l4), (6, .int l6), (7, .int l7)], [.int l7, .ref 2])) tb_c_21_0 mx_21 1 rfl ?_
      obtain ⟨x30, S29, c31, h⟩ := wd_cx h
      refine bk_kv tb_c_21_0 rfl rfl rfl rfl rfl (ci := 5) rfl rfl (ev_up (Nat.le_of_ble_eq_true rfl) (sn_Row_at rfl c31)) ?_
      obtain ⟨x33, S32, c34, h⟩ := wd_cx h
      refine bk_ks tb_c_21_0 rfl rfl rfl (by decide) rfl rfl (ev_up (Nat.le_of_ble_eq_true rfl) (sn_Tokens_isLetter c34)) ?_
      by_cases g35 : x33 = 0
      · rw [if_pos g35] at h
        refine bk_zf tb_c_21_0 rfl (pc' := 35) rfl (t := 50) rfl (cm_ne_f g35) ?_
        refine bk_b (q := (36, [(0, .ref 4), (1, .int l1), (2, .long l2), (4, .long l4), (6, .int l6), (7, .int l7)], [.ref 4])) tb_c_21_0 mx_21 1 rfl ?_
        refine bk_gc tb_c_21_0 rfl rfl (ci := 7) (k := 0) rfl rfl rfl ?_
        refine bk_b (q := (41, [(0, .ref 4), (1, .int l1), (2, .long l2), (4, .long l4), (6, .int l6), (7, .int l7)], [.int l7, .ref 2])) tb_c_21_0 mx_21 1 rfl ?_
        obtain ⟨x45, S44, c46, h⟩ := wd_cx h
        refine bk_kv tb_c_21_0 rfl rfl rfl rfl rfl (ci := 5) rfl rfl (ev_up (Nat.le_of_ble_eq_true rfl) (sn_Row_at rfl c46)) ?_
        obtain ⟨x48, S47, c49, h⟩ := wd_cx h
        refine bk_ks tb_c_21_0 rfl rfl rfl (by decide) rfl rfl (ev_up (Nat.le_of_ble_eq_true rfl) (sn_Tokens_isDigit c49)) ?_
        by_cases g50 : x48 = 0
        · rw [if_pos g50] at h
          refine bk_zt tb_c_21_0 rfl (pc' := 111) rfl (cm_eq_t g50) ?_
          exact go_lv (ls_sc rfl rfl (ls_sc rfl rfl (ls_sc rfl rfl (ls_sc rfl rfl (ls_sc rfl rfl (ls_sc rfl rfl ls_nil)))))) (sn_Tokens_scanRow_111 h)
        · rw [if_neg g50] at h
          refine bk_zf tb_c_21_0 rfl (pc' := 50) rfl (t := 111) rfl (cm_eq_f g50) ?_
          exact go_lv (ls_sc rfl rfl (ls_sc rfl rfl (ls_sc rfl rfl (ls_sc rfl rfl (ls_sc rfl rfl (ls_sc rfl rfl ls_nil)))))) (sn_Tokens_scanRow_50 ih h)
      · rw [if_neg g35] at h
        refine bk_zt tb_c_21_0 rfl (pc' := 50) rfl (cm_ne_t g35) ?_
        exact go_lv (ls_sc rfl rfl (ls_sc rfl rfl (ls_sc rfl rfl (ls_sc rfl rfl (ls_sc rfl rfl (ls_sc rfl rfl ls_nil)))))) (sn_Tokens_scanRow_50 ih h)
    · rw [if_neg g1] at h
      refine bk_jt tb_c_21_0 rfl (pc' := 111) rfl (cm_ge_t g1) ?_
      exact go_lv (ls_sc rfl rfl (ls_sc rfl rfl (ls_sc rfl rfl (ls_sc rfl rfl (ls_sc rfl rfl (ls_sc rfl rfl ls_nil)))))) (sn_Tokens_scanRow_111 h)
/-- Specialiser$Tokens.scanRow(I)I -/
noncomputable def fn_Tokens_scanRow (p1 : Int32) (S : wd_S) : Option (Int32 × wd_S) :=
  fn_Tokens_scanRow_11 wd_F p1 (0 : Int64) (0 : Int64) (1 : Int32) p1 S
set_option maxRecDepth 100000 in
theorem sn_Tokens_scanRow {L : Nat} {xs : Nat → Int32} {p1 : Int32} {S : wd_S} {x : Int32} {S' : wd_S} (h : fn_Tokens_scanRow p1 S = some (x, S')) : ev_r tb_P L xs (2 + 1) 21 [.ref 4, .int p1] (wd_k S) (.inl (some (.int x)), wd_k S') := by
  unfold fn_Tokens_scanRow at h
  refine ev_of (Nat.le_of_ble_eq_true rfl) ?_
  show go_r tb_P L xs 2 21 0 [(0, .ref 4), (1, .int p1)] [] (wd_k S) (.inl (some (.int x)), wd_k S')
  refine bk_b (q := (11, [(7, .int p1), (6, .int (1 : Int32)), (4, .long (0 : Int64)), (2, .long (0 : Int64)), (0, .ref 4), (1, .int p1)], [])) tb_c_21_0 mx_21 8 rfl ?_
  exact go_lv (ls_sc rfl rfl (ls_sc rfl rfl (ls_sc rfl rfl (ls_sc rfl rfl (ls_sc rfl rfl (ls_sc rfl rfl ls_nil)))))) (sn_Tokens_scanRow_11 wd_F h)
theorem mx_25 : mi_mx tb_P 25 = 1 := rfl
/-- Specialiser$Tokens.signKind(I)I -/
noncomputable def fn_Tokens_signKind (p0 : Int32) (S : wd_S) : Option (Int32 × wd_S) :=
  (if p0 = (40 : Int32) then
    some ((15 : Int32), S)
  else
  (if p0 = (41 : Int32) then
    some ((16 : Int32), S)
  else
  (if p0 = (42 : Int32) then
    some ((8 : Int32), S)
  else
  (if p0 = (43 : Int32) then
    some ((6 : Int32), S)
  else
  (if p0 = (44 : Int32) then
    some ((17 : Int32), S)
  else
  (if p0 = (45 : Int32) then
    some ((7 : Int32), S)
  else
  (if p0 = (46 : Int32) then
    some ((19 : Int32), S)
  else
  (if p0 = (47 : Int32) then
    some ((19 : Int32), S)
  else
  (if p0 = (48 : Int32) then
    some ((19 : Int32), S)
  else
  (if p0 = (49 : Int32) then
    some ((19 : Int32), S)
  else
  (if p0 = (50 : Int32) then
    some ((19 : Int32), S)
  else
  (if p0 = (51 : Int32) then
    some ((19 : Int32), S)
  else
  (if p0 = (52 : Int32) then
    some ((19 : Int32), S)
  else
  (if p0 = (53 : Int32) then
    some ((19 : Int32), S)
  else
  (if p0 = (54 : Int32) then
    some ((19 : Int32), S)
  else
  (if p0 = (55 : Int32) then
    some ((19 : Int32), S)
  else
  (if p0 = (56 : Int32) then
    some ((19 : Int32), S)
  else
  (if p0 = (57 : Int32) then
    some ((19 : Int32), S)
  else
  (if p0 = (58 : Int32) then
    some ((19 : Int32), S)
  else
  (if p0 = (59 : Int32) then
    some ((18 : Int32), S)
  else
  (if p0 = (60 : Int32) then
    some ((9 : Int32), S)
  else
  (if p0 = (61 : Int32) then
    some ((14 : Int32), S)
  else
  some ((19 : Int32), S)))))))))))))))))))))))
set_option maxRecDepth 100000 in
theorem sn_Tokens_signKind {L : Nat} {xs : Nat → Int32} {p0 : Int32} {S : wd_S} {x : Int32} {S' : wd_S} (h : fn_Tokens_signKind p0 S = some (x, S')) : ev_r tb_P L xs (0 + 1) 25 [.int p0] (wd_k S) (.inl (some (.int x)), wd_k S') := by
  unfold fn_Tokens_signKind at h
  refine ev_of (Nat.le_of_ble_eq_true rfl) ?_
  show go_r tb_P L xs 0 25 0 [(0, .int p0)] [] (wd_k S) (.inl (some (.int x)), wd_k S')
  refine bk_b (q := (1, [(0, .int p0)], [.int p0])) tb_c_25_0 mx_25 1 rfl ?_
  by_cases g1 : p0 = (40 : Int32)
  · rw [if_pos g1] at h
    refine bk_sw tb_c_25_0 rfl (pc' := 107) (by rw [g1]; rfl) ?_
    refine bk_b (q := (109, [(0, .int p0)], [.int (15 : Int32)])) tb_c_25_0 mx_25 1 rfl ?_
    cases h
    exact bk_t tb_c_25_0 rfl rfl
  · rw [if_neg g1] at h
    by_cases g2 : p0 = (41 : Int32)
    · rw [if_pos g2] at h
      refine bk_sw tb_c_25_0 rfl (pc' := 110) (by rw [g2]; rfl) ?_
      refine bk_b (q := (112, [(0, .int p0)], [.int (16 : Int32)])) tb_c_25_0 mx_25 1 rfl ?_
      cases h
      exact bk_t tb_c_25_0 rfl rfl
    · rw [if_neg g2] at h
      by_cases g3 : p0 = (42 : Int32)
      · rw [if_pos g3] at h
        refine bk_sw tb_c_25_0 rfl (pc' := 125) (by rw [g3]; rfl) ?_
        refine bk_b (q := (127, [(0, .int p0)], [.int (8 : Int32)])) tb_c_25_0 mx_25 1 rfl ?_
        cases h
        exact bk_t tb_c_25_0 rfl rfl
      · rw [if_neg g3] at h
        by_cases g4 : p0 = (43 : Int32)
        · rw [if_pos g4] at h
          refine bk_sw tb_c_25_0 rfl (pc' := 119) (by rw [g4]; rfl) ?_
          refine bk_b (q := (121, [(0, .int p0)], [.int (6 : Int32)])) tb_c_25_0 mx_25 1 rfl ?_
          cases h
          exact bk_t tb_c_25_0 rfl rfl
        · rw [if_neg g4] at h
          by_cases g5 : p0 = (44 : Int32)
          · rw [if_pos g5] at h
            refine bk_sw tb_c_25_0 rfl (pc' := 113) (by rw [g5]; rfl) ?_
            refine bk_b (q := (115, [(0, .int p0)], [.int (17 : Int32)])) tb_c_25_0 mx_25 1 rfl ?_
            cases h
            exact bk_t tb_c_25_0 rfl rfl
          · rw [if_neg g5] at h
            by_cases g6 : p0 = (45 : Int32)
            · rw [if_pos g6] at h
              refine bk_sw tb_c_25_0 rfl (pc' := 122) (by rw [g6]; rfl) ?_
              refine bk_b (q := (124, [(0, .int p0)], [.int (7 : Int32)])) tb_c_25_0 mx_25 1 rfl ?_
              cases h
              exact bk_t tb_c_25_0 rfl rfl
            · rw [if_neg g6] at h
              by_cases g7 : p0 = (46 : Int32)
              · rw [if_pos g7] at h
                refine bk_sw tb_c_25_0 rfl (pc' := 131) (by rw [g7]; rfl) ?_
                refine bk_b (q := (133, [(0, .int p0)], [.int (19 : Int32)])) tb_c_25_0 mx_25 1 rfl ?_
                cases h
                exact bk_t tb_c_25_0 rfl rfl
              · rw [if_neg g7] at h
                by_cases g8 : p0 = (47 : Int32)
                · rw [if_pos g8] at h
                  refine bk_sw tb_c_25_0 rfl (pc' := 131) (by rw [g8]; rfl) ?_
                  refine bk_b (q := (133, [(0, .int p0)], [.int (19 : Int32)])) tb_c_25_0 mx_25 1 rfl ?_
                  cases h
                  exact bk_t tb_c_25_0 rfl rfl
                · rw [if_neg g8] at h
                  by_cases g9 : p0 = (48 : Int32)
                  · rw [if_pos g9] at h
                    refine bk_sw tb_c_25_0 rfl (pc' := 131) (by rw [g9]; rfl) ?_
                    refine bk_b (q := (133, [(0, .int p0)], [.int (19 : Int32)])) tb_c_25_0 mx_25 1 rfl ?_
                    cases h
                    exact bk_t tb_c_25_0 rfl rfl
                  · rw [if_neg g9] at h
                    by_cases g10 : p0 = (49 : Int32)
                    · rw [if_pos g10] at h
                      refine bk_sw tb_c_25_0 rfl (pc' := 131) (by rw [g10]; rfl) ?_
                      refine bk_b (q := (133, [(0, .int p0)], [.int (19 : Int32)])) tb_c_25_0 mx_25 1 rfl ?_
                      cases h
                      exact bk_t tb_c_25_0 rfl rfl
                    · rw [if_neg g10] at h
                      by_cases g11 : p0 = (50 : Int32)
                      · rw [if_pos g11] at h
                        refine bk_sw tb_c_25_0 rfl (pc' := 131) (by rw [g11]; rfl) ?_
                        refine bk_b (q := (133, [(0, .int p0)], [.int (19 : Int32)])) tb_c_25_0 mx_25 1 rfl ?_
                        cases h
                        exact bk_t tb_c_25_0 rfl rfl
                      · rw [if_neg g11] at h
                        by_cases g12 : p0 = (51 : Int32)
                        · rw [if_pos g12] at h
                          refine bk_sw tb_c_25_0 rfl (pc' := 131) (by rw [g12]; rfl) ?_
                          refine bk_b (q := (133, [(0, .int p0)], [.int (19 : Int32)])) tb_c_25_0 mx_25 1 rfl ?_
                          cases h
                          exact bk_t tb_c_25_0 rfl rfl
                        · rw [if_neg g12] at h
                          by_cases g13 : p0 = (52 : Int32)
                          · rw [if_pos g13] at h
                            refine bk_sw tb_c_25_0 rfl (pc' := 131) (by rw [g13]; rfl) ?_
                            refine bk_b (q := (133, [(0, .int p0)], [.int (19 : Int32)])) tb_c_25_0 mx_25 1 rfl ?_
                            cases h
                            exact bk_t tb_c_25_0 rfl rfl
                          · rw [if_neg g13] at h
                            by_cases g14 : p0 = (53 : Int32)
                            · rw [if_pos g14] at h
                              refine bk_sw tb_c_25_0 rfl (pc' := 131) (by rw [g14]; rfl) ?_
                              refine bk_b (q := (133, [(0, .int p0)], [.int (19 : Int32)])) tb_c_25_0 mx_25 1 rfl ?_
                              cases h
                              exact bk_t tb_c_25_0 rfl rfl
                            · rw [if_neg g14] at h
                              by_cases g15 : p0 = (54 : Int32)
                              · rw [if_pos g15] at h
                                refine bk_sw tb_c_25_0 rfl (pc' := 131) (by rw [g15]; rfl) ?_
                                refine bk_b (q := (133, [(0, .int p0)], [.int (19 : Int32)])) tb_c_25_0 mx_25 1 rfl ?_
                                cases h
                                exact bk_t tb_c_25_0 rfl rfl
                              · rw [if_neg g15] at h
                                by_cases g16 : p0 = (55 : Int32)
                                · rw [if_pos g16] at h
                                  refine bk_sw tb_c_25_0 rfl (pc' := 131) (by rw [g16]; rfl) ?_
                                  refine bk_b (q := (133, [(0, .int p0)], [.int (19 : Int32)])) tb_c_25_0 mx_25 1 rfl ?_
                                  cases h
                                  exact bk_t tb_c_25_0 rfl rfl
                                · rw [if_neg g16] at h
                                  by_cases g17 : p0 = (56 : Int32)
                                  · rw [if_pos g17] at h
                                    refine bk_sw tb_c_25_0 rfl (pc' := 131) (by rw [g17]; rfl) ?_
                                    refine bk_b (q := (133, [(0, .int p0)], [.int (19 : Int32)])) tb_c_25_0 mx_25 1 rfl ?_
                                    cases h
                                    exact bk_t tb_c_25_0 rfl rfl
                                  · rw [if_neg g17] at h
                                    by_cases g18 : p0 = (57 : Int32)
                                    · rw [if_pos g18] at h
                                      refine bk_sw tb_c_25_0 rfl (pc' := 131) (by rw [g18]; rfl) ?_
                                      refine bk_b (q := (133, [(0, .int p0)], [.int (19 : Int32)])) tb_c_25_0 mx_25 1 rfl ?_
                                      cases h
                                      exact bk_t tb_c_25_0 rfl rfl
                                    · rw [if_neg g18] at h
                                      by_cases g19 : p0 = (58 : Int32)
                                      · rw [if_pos g19] at h
                                        refine bk_sw tb_c_25_0 rfl (pc' := 131) (by rw [g19]; rfl) ?_
                                        refine bk_b (q := (133, [(0, .int p0)], [.int (19 : Int32)])) tb_c_25_0 mx_25 1 rfl ?_
                                        cases h
                                        exact bk_t tb_c_25_0 rfl rfl
                                      · rw [if_neg g19] at h
                                        by_cases g20 : p0 = (59 : Int32)
                                        · rw [if_pos g20] at h
                                          refine bk_sw tb_c_25_0 rfl (pc' := 116) (by rw [g20]; rfl) ?_
                                          refine bk_b (q := (118, [(0, .int p0)], [.int (18 : Int32)])) tb_c_25_0 mx_25 1 rfl ?_
                                          cases h
                                          exact bk_t tb_c_25_0 rfl rfl
                                        · rw [if_neg g20] at h
                                          by_cases g21 : p0 = (60 : Int32)
                                          · rw [if_pos g21] at h
                                            refine bk_sw tb_c_25_0 rfl (pc' := 128) (by rw [g21]; rfl) ?_
                                            refine bk_b (q := (130, [(0, .int p0)], [.int (9 : Int32)])) tb_c_25_0 mx_25 1 rfl ?_
                                            cases h
                                            exact bk_t tb_c_25_0 rfl rfl
                                          · rw [if_neg g21] at h
                                            by_cases g22 : p0 = (61 : Int32)
                                            · rw [if_pos g22] at h
                                              refine bk_sw tb_c_25_0 rfl (pc' := 104) (by rw [g22]; rfl) ?_
                                              refine bk_b (q := (106, [(0, .int p0)], [.int (14 : Int32)])) tb_c_25_0 mx_25 1 rfl ?_
                                              cases h
                                              exact bk_t tb_c_25_0 rfl rfl
                                            · rw [if_neg g22] at h
                                              refine bk_sw tb_c_25_0 rfl (pc' := 131) (sw_t (t := 131) (fun i h1 h2 => ?_) rfl) ?_
                                              · have hi : i = 40 ∨ i = 41 ∨ i = 42 ∨ i = 43 ∨ i = 44 ∨ i = 45 ∨ i = 46 ∨ i = 47 ∨ i = 48 ∨ i = 49 ∨ i = 50 ∨ i = 51 ∨ i = 52 ∨ i = 53 ∨ i = 54 ∨ i = 55 ∨ i = 56 ∨ i = 57 ∨ i = 58 ∨ i = 59 ∨ i = 60 ∨ i = 61 := by omega
                                                rcases hi with rfl | rfl | rfl | rfl | rfl | rfl | rfl | rfl | rfl | rfl | rfl | rfl | rfl | rfl | rfl | rfl | rfl | rfl | rfl | rfl | rfl | rfl
                                                · exact g1
                                                · exact g2
                                                · exact g3
                                                · exact g4
                                                · exact g5
                                                · exact g6
                                                · exact g7
                                                · exact g8
                                                · exact g9
                                                · exact g10
                                                · exact g11
                                                · exact g12
                                                · exact g13
                                                · exact g14
                                                · exact g15
                                                · exact g16
                                                · exact g17
                                                · exact g18
                                                · exact g19
                                                · exact g20
                                                · exact g21
                                                · exact g22
                                              · refine bk_b (q := (133, [(0, .int p0)], [.int (19 : Int32)])) tb_c_25_0 mx_25 1 rfl ?_
                                                cases h
                                                exact bk_t tb_c_25_0 rfl rfl
