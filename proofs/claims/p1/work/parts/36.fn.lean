/-! Methods as functions: printed by wip/whole/gen_fn.py. -/
theorem mx_18 : mi_mx tb_P 18 = 2 := rfl
noncomputable def fn_Row_at_23 (s0 : Int32) (S : wd_S) : Option (Int32 × wd_S) :=
  some (s0, S)
theorem sn_Row_at_23 {L : Nat} {xs : Nat → Int32} {s0 : Int32} {S : wd_S} {x : Int32} {S' : wd_S} (h : fn_Row_at_23 s0 S = some (x, S')) : go_r tb_P L xs 0 18 23 [] [.int s0] (wd_k S) (.inl (some (.int x)), wd_k S') := by
  unfold fn_Row_at_23 at h
  cases h
  exact bk_t tb_c_18_0 rfl rfl
noncomputable def fn_Row_at_22 (S : wd_S) : Option (Int32 × wd_S) :=
  fn_Row_at_23 (0 : Int32) S
theorem sn_Row_at_22 {L : Nat} {xs : Nat → Int32} {S : wd_S} {x : Int32} {S' : wd_S} (h : fn_Row_at_22  S = some (x, S')) : go_r tb_P L xs 0 18 22 [] [] (wd_k S) (.inl (some (.int x)), wd_k S') := by
  unfold fn_Row_at_22 at h
  refine bk_b (q := (23, [], [.int (0 : Int32)])) tb_c_18_0 mx_18 1 rfl ?_
  exact go_lv ls_nil (sn_Row_at_23 h)
/-- Specialiser$Row.at(I)I -/
noncomputable def fn_Row_at (p0 : Nat) (p1 : Int32) (S : wd_S) : Option (Int32 × wd_S) :=
  (if p1 < 0 then
    fn_Row_at_22  S
  else
    (if p1 < (Int32.ofNat (tp_t (p0 + 1)).2) then
      (if p1 < 0 ∨ (tp_t (p0 + 1)).2 ≤ p1.toNatClampNeg then none else
      fn_Row_at_23 (S.1 (p0 + 1) p1.toNatClampNeg) S)
    else
      fn_Row_at_22  S))
theorem sn_Row_at {L : Nat} {xs : Nat → Int32} {p0 : Nat} {p1 : Int32} {S : wd_S} {x : Int32} {S' : wd_S} (hp0 : tp_t p0 = (0, 5)) (h : fn_Row_at p0 p1 S = some (x, S')) : ev_r tb_P L xs (0 + 1) 18 [.ref p0, .int p1] (wd_k S) (.inl (some (.int x)), wd_k S') := by
  unfold fn_Row_at at h
  refine ev_of (Nat.le_of_ble_eq_true rfl) ?_
  show go_r tb_P L xs 0 18 0 [(0, .ref p0), (1, .int p1)] [] (wd_k S) (.inl (some (.int x)), wd_k S')
  refine bk_b (q := (1, [(0, .ref p0), (1, .int p1)], [.int p1])) tb_c_18_0 mx_18 1 rfl ?_
  by_cases g1 : p1 < 0
  · rw [if_pos g1] at h
    refine bk_zt tb_c_18_0 rfl (pc' := 22) rfl (cm_lt_t g1) ?_
    exact go_lv ls_nil (sn_Row_at_22 h)
  · rw [if_neg g1] at h
    refine bk_zf tb_c_18_0 rfl (pc' := 4) rfl (t := 22) rfl (cm_lt_f g1) ?_
    refine bk_b (q := (6, [(0, .ref p0), (1, .int p1)], [.ref p0, .int p1])) tb_c_18_0 mx_18 2 rfl ?_
    refine bk_go tb_c_18_0 rfl rfl (ci := 5) (k := 0) rfl hp0 rfl ?_
    refine bk_al tb_c_18_0 rfl rfl (tp_5_0 hp0) (by decide) ?_
    by_cases g2 : p1 < (Int32.ofNat (tp_t (p0 + 1)).2)
    · rw [if_pos g2] at h
      refine bk_jf tb_c_18_0 rfl (pc' := 13) rfl (t := 22) rfl (cm_ge_f g2) ?_
      refine bk_b (q := (14, [(0, .ref p0), (1, .int p1)], [.ref p0])) tb_c_18_0 mx_18 1 rfl ?_
      refine bk_go tb_c_18_0 rfl rfl (ci := 5) (k := 0) rfl hp0 rfl ?_
      refine bk_b (q := (18, [(0, .ref p0), (1, .int p1)], [.int p1, .ref (p0 + 1)])) tb_c_18_0 mx_18 1 rfl ?_
      by_cases g3 : p1 < 0 ∨ (tp_t (p0 + 1)).2 ≤ p1.toNatClampNeg
      · rw [if_pos g3] at h; cases h
      · rw [if_neg g3] at h
        refine bk_a4 tb_c_18_0 rfl rfl (tp_5_0 hp0) g3 ?_
        refine bk_b (q := (23, [(0, .ref p0), (1, .int p1)], [.int (S.1 (p0 + 1) p1.toNatClampNeg)])) tb_c_18_0 mx_18 1 rfl ?_
        exact go_lv ls_nil (sn_Row_at_23 h)
    · rw [if_neg g2] at h
      refine bk_jt tb_c_18_0 rfl (pc' := 22) rfl (cm_ge_t g2) ?_
      exact go_lv ls_nil (sn_Row_at_22 h)
theorem mx_16 : mi_mx tb_P 16 = 3 := rfl
noncomputable def fn_Row_put_20 (S : wd_S) : Option wd_S :=
  some S
theorem sn_Row_put_20 {L : Nat} {xs : Nat → Int32} {S : wd_S} {S' : wd_S} (h : fn_Row_put_20  S = some S') : go_r tb_P L xs 0 16 20 [] [] (wd_k S) (.inl none, wd_k S') := by
  unfold fn_Row_put_20 at h
  cases h
  exact bk_t tb_c_16_0 rfl rfl
/-- Specialiser$Row.put(II)V -/
noncomputable def fn_Row_put (p0 : Nat) (p1 : Int32) (p2 : Int32) (S : wd_S) : Option wd_S :=
  (if p1 < 0 then
    fn_Row_put_20  S
  else
    (if p1 < (Int32.ofNat (tp_t (p0 + 1)).2) then
      (if p1 < 0 ∨ (tp_t (p0 + 1)).2 ≤ p1.toNatClampNeg then none else
      (wd_b (wd_i S (p0 + 1) p1.toNatClampNeg p2) fun S4 =>
      fn_Row_put_20  S4))
    else
      fn_Row_put_20  S))
theorem sn_Row_put {L : Nat} {xs : Nat → Int32} {p0 : Nat} {p1 : Int32} {p2 : Int32} {S : wd_S} {S' : wd_S} (hp0 : tp_t p0 = (0, 5)) (h : fn_Row_put p0 p1 p2 S = some S') : ev_r tb_P L xs (0 + 1) 16 [.ref p0, .int p1, .int p2] (wd_k S) (.inl none, wd_k S') := by
  unfold fn_Row_put at h
  refine ev_of (Nat.le_of_ble_eq_true rfl) ?_
  show go_r tb_P L xs 0 16 0 [(0, .ref p0), (1, .int p1), (2, .int p2)] [] (wd_k S) (.inl none, wd_k S')
  refine bk_b (q := (1, [(0, .ref p0), (1, .int p1), (2, .int p2)], [.int p1])) tb_c_16_0 mx_16 1 rfl ?_
  by_cases g1 : p1 < 0
  · rw [if_pos g1] at h
    refine bk_zt tb_c_16_0 rfl (pc' := 20) rfl (cm_lt_t g1) ?_
    exact go_lv ls_nil (sn_Row_put_20 h)
  · rw [if_neg g1] at h
    refine bk_zf tb_c_16_0 rfl (pc' := 4) rfl (t := 20) rfl (cm_lt_f g1) ?_
    refine bk_b (q := (6, [(0, .ref p0), (1, .int p1), (2, .int p2)], [.ref p0, .int p1])) tb_c_16_0 mx_16 2 rfl ?_
    refine bk_go tb_c_16_0 rfl rfl (ci := 5) (k := 0) rfl hp0 rfl ?_
    refine bk_al tb_c_16_0 rfl rfl (tp_5_0 hp0) (by decide) ?_
    by_cases g2 : p1 < (Int32.ofNat (tp_t (p0 + 1)).2)
    · rw [if_pos g2] at h
      refine bk_jf tb_c_16_0 rfl (pc' := 13) rfl (t := 20) rfl (cm_ge_f g2) ?_
      refine bk_b (q := (14, [(0, .ref p0), (1, .int p1), (2, .int p2)], [.ref p0])) tb_c_16_0 mx_16 1 rfl ?_
      refine bk_go tb_c_16_0 rfl rfl (ci := 5) (k := 0) rfl hp0 rfl ?_
      refine bk_b (q := (19, [(0, .ref p0), (1, .int p1), (2, .int p2)], [.int p2, .int p1, .ref (p0 + 1)])) tb_c_16_0 mx_16 2 rfl ?_
      by_cases g3 : p1 < 0 ∨ (tp_t (p0 + 1)).2 ≤ p1.toNatClampNeg
      · rw [if_pos g3] at h; cases h
      · rw [if_neg g3] at h
        obtain ⟨S4, eS4, h⟩ := wd_bx h
        refine bk_s4 tb_c_16_0 rfl rfl (tp_5_0 hp0) g3 ?_
        rw [eS4]
        exact go_lv ls_nil (sn_Row_put_20 h)
    · rw [if_neg g2] at h
      refine bk_jt tb_c_16_0 rfl (pc' := 20) rfl (cm_ge_t g2) ?_
      exact go_lv ls_nil (sn_Row_put_20 h)
theorem mx_34 : mi_mx tb_P 34 = 2 := rfl
noncomputable def fn_LongRow_at_23 (s0 : Int64) (S : wd_S) : Option (Int64 × wd_S) :=
  some (s0, S)
theorem sn_LongRow_at_23 {L : Nat} {xs : Nat → Int32} {s0 : Int64} {S : wd_S} {x : Int64} {S' : wd_S} (h : fn_LongRow_at_23 s0 S = some (x, S')) : go_r tb_P L xs 0 34 23 [] [.long s0] (wd_k S) (.inl (some (.long x)), wd_k S') := by
  unfold fn_LongRow_at_23 at h
  cases h
  exact bk_t tb_c_34_0 rfl rfl
noncomputable def fn_LongRow_at_22 (S : wd_S) : Option (Int64 × wd_S) :=
  fn_LongRow_at_23 (0 : Int64) S
theorem sn_LongRow_at_22 {L : Nat} {xs : Nat → Int32} {S : wd_S} {x : Int64} {S' : wd_S} (h : fn_LongRow_at_22  S = some (x, S')) : go_r tb_P L xs 0 34 22 [] [] (wd_k S) (.inl (some (.long x)), wd_k S') := by
  unfold fn_LongRow_at_22 at h
  refine bk_b (q := (23, [], [.long (0 : Int64)])) tb_c_34_0 mx_34 1 rfl ?_
  exact go_lv ls_nil (sn_LongRow_at_23 h)
/-- Specialiser$LongRow.at(I)J -/
noncomputable def fn_LongRow_at (p0 : Nat) (p1 : Int32) (S : wd_S) : Option (Int64 × wd_S) :=
  (if p1 < 0 then
    fn_LongRow_at_22  S
  else
    (if p1 < (Int32.ofNat (tp_t (p0 + 1)).2) then
      (if p1 < 0 ∨ (tp_t (p0 + 1)).2 ≤ p1.toNatClampNeg then none else
      fn_LongRow_at_23 (S.2.1 (p0 + 1) p1.toNatClampNeg) S)
    else
      fn_LongRow_at_22  S))
theorem sn_LongRow_at {L : Nat} {xs : Nat → Int32} {p0 : Nat} {p1 : Int32} {S : wd_S} {x : Int64} {S' : wd_S} (hp0 : tp_t p0 = (0, 1)) (h : fn_LongRow_at p0 p1 S = some (x, S')) : ev_r tb_P L xs (0 + 1) 34 [.ref p0, .int p1] (wd_k S) (.inl (some (.long x)), wd_k S') := by
  unfold fn_LongRow_at at h
  refine ev_of (Nat.le_of_ble_eq_true rfl) ?_
  show go_r tb_P L xs 0 34 0 [(0, .ref p0), (1, .int p1)] [] (wd_k S) (.inl (some (.long x)), wd_k S')
  refine bk_b (q := (1, [(0, .ref p0), (1, .int p1)], [.int p1])) tb_c_34_0 mx_34 1 rfl ?_
  by_cases g1 : p1 < 0
  · rw [if_pos g1] at h
    refine bk_zt tb_c_34_0 rfl (pc' := 22) rfl (cm_lt_t g1) ?_
    exact go_lv ls_nil (sn_LongRow_at_22 h)
  · rw [if_neg g1] at h
    refine bk_zf tb_c_34_0 rfl (pc' := 4) rfl (t := 22) rfl (cm_lt_f g1) ?_
    refine bk_b (q := (6, [(0, .ref p0), (1, .int p1)], [.ref p0, .int p1])) tb_c_34_0 mx_34 2 rfl ?_
    refine bk_go tb_c_34_0 rfl rfl (ci := 1) (k := 0) rfl hp0 rfl ?_
    refine bk_al tb_c_34_0 rfl rfl (tp_1_0 hp0) (by decide) ?_
    by_cases g2 : p1 < (Int32.ofNat (tp_t (p0 + 1)).2)
    · rw [if_pos g2] at h
      refine bk_jf tb_c_34_0 rfl (pc' := 13) rfl (t := 22) rfl (cm_ge_f g2) ?_
      refine bk_b (q := (14, [(0, .ref p0), (1, .int p1)], [.ref p0])) tb_c_34_0 mx_34 1 rfl ?_
      refine bk_go tb_c_34_0 rfl rfl (ci := 1) (k := 0) rfl hp0 rfl ?_
      refine bk_b (q := (18, [(0, .ref p0), (1, .int p1)], [.int p1, .ref (p0 + 1)])) tb_c_34_0 mx_34 1 rfl ?_
      by_cases g3 : p1 < 0 ∨ (tp_t (p0 + 1)).2 ≤ p1.toNatClampNeg
      · rw [if_pos g3] at h; cases h
      · rw [if_neg g3] at h
        refine bk_a8 tb_c_34_0 rfl rfl (tp_1_0 hp0) g3 ?_
        refine bk_b (q := (23, [(0, .ref p0), (1, .int p1)], [.long (S.2.1 (p0 + 1) p1.toNatClampNeg)])) tb_c_34_0 mx_34 1 rfl ?_
        exact go_lv ls_nil (sn_LongRow_at_23 h)
    · rw [if_neg g2] at h
      refine bk_jt tb_c_34_0 rfl (pc' := 22) rfl (cm_ge_t g2) ?_
      exact go_lv ls_nil (sn_LongRow_at_22 h)
theorem mx_24 : mi_mx tb_P 24 = 4 := rfl
noncomputable def fn_LongRow_put_20 (S : wd_S) : Option wd_S :=
  some S
theorem sn_LongRow_put_20 {L : Nat} {xs : Nat → Int32} {S : wd_S} {S' : wd_S} (h : fn_LongRow_put_20  S = some S') : go_r tb_P L xs 0 24 20 [] [] (wd_k S) (.inl none, wd_k S') := by
  unfold fn_LongRow_put_20 at h
  cases h
  exact bk_t tb_c_24_0 rfl rfl
/-- Specialiser$LongRow.put(IJ)V -/
noncomputable def fn_LongRow_put (p0 : Nat) (p1 : Int32) (p2 : Int64) (S : wd_S) : Option wd_S :=
  (if p1 < 0 then
    fn_LongRow_put_20  S
  else
    (if p1 < (Int32.ofNat (tp_t (p0 + 1)).2) then
      (if p1 < 0 ∨ (tp_t (p0 + 1)).2 ≤ p1.toNatClampNeg then none else
      (wd_b (wd_l S (p0 + 1) p1.toNatClampNeg p2) fun S4 =>
      fn_LongRow_put_20  S4))
    else
      fn_LongRow_put_20  S))
theorem sn_LongRow_put {L : Nat} {xs : Nat → Int32} {p0 : Nat} {p1 : Int32} {p2 : Int64} {S : wd_S} {S' : wd_S} (hp0 : tp_t p0 = (0, 1)) (h : fn_LongRow_put p0 p1 p2 S = some S') : ev_r tb_P L xs (0 + 1) 24 [.ref p0, .int p1, .long p2] (wd_k S) (.inl none, wd_k S') := by
  unfold fn_LongRow_put at h
  refine ev_of (Nat.le_of_ble_eq_true rfl) ?_
  show go_r tb_P L xs 0 24 0 [(0, .ref p0), (1, .int p1), (2, .long p2)] [] (wd_k S) (.inl none, wd_k S')
  refine bk_b (q := (1, [(0, .ref p0), (1, .int p1), (2, .long p2)], [.int p1])) tb_c_24_0 mx_24 1 rfl ?_
  by_cases g1 : p1 < 0
  · rw [if_pos g1] at h
    refine bk_zt tb_c_24_0 rfl (pc' := 20) rfl (cm_lt_t g1) ?_
    exact go_lv ls_nil (sn_LongRow_put_20 h)
  · rw [if_neg g1] at h
    refine bk_zf tb_c_24_0 rfl (pc' := 4) rfl (t := 20) rfl (cm_lt_f g1) ?_
    refine bk_b (q := (6, [(0, .ref p0), (1, .int p1), (2, .long p2)], [.ref p0, .int p1])) tb_c_24_0 mx_24 2 rfl ?_
    refine bk_go tb_c_24_0 rfl rfl (ci := 1) (k := 0) rfl hp0 rfl ?_
    refine bk_al tb_c_24_0 rfl rfl (tp_1_0 hp0) (by decide) ?_
    by_cases g2 : p1 < (Int32.ofNat (tp_t (p0 + 1)).2)
    · rw [if_pos g2] at h
      refine bk_jf tb_c_24_0 rfl (pc' := 13) rfl (t := 20) rfl (cm_ge_f g2) ?_
      refine bk_b (q := (14, [(0, .ref p0), (1, .int p1), (2, .long p2)], [.ref p0])) tb_c_24_0 mx_24 1 rfl ?_
      refine bk_go tb_c_24_0 rfl rfl (ci := 1) (k := 0) rfl hp0 rfl ?_
      refine bk_b (q := (19, [(0, .ref p0), (1, .int p1), (2, .long p2)], [.long p2, .int p1, .ref (p0 + 1)])) tb_c_24_0 mx_24 2 rfl ?_
      by_cases g3 : p1 < 0 ∨ (tp_t (p0 + 1)).2 ≤ p1.toNatClampNeg
      · rw [if_pos g3] at h; cases h
      · rw [if_neg g3] at h
        obtain ⟨S4, eS4, h⟩ := wd_bx h
        refine bk_s8 tb_c_24_0 rfl rfl (tp_1_0 hp0) g3 ?_
        rw [eS4]
        exact go_lv ls_nil (sn_LongRow_put_20 h)
    · rw [if_neg g2] at h
      refine bk_jt tb_c_24_0 rfl (pc' := 20) rfl (cm_ge_t g2) ?_
      exact go_lv ls_nil (sn_LongRow_put_20 h)
theorem mx_26 : mi_mx tb_P 26 = 2 := rfl
noncomputable def fn_Math_max_10 (s0 : Int32) (S : wd_S) : Option (Int32 × wd_S) :=
  some (s0, S)
theorem sn_Math_max_10 {L : Nat} {xs : Nat → Int32} {s0 : Int32} {S : wd_S} {x : Int32} {S' : wd_S} (h : fn_Math_max_10 s0 S = some (x, S')) : go_r tb_P L xs 0 26 10 [] [.int s0] (wd_k S) (.inl (some (.int x)), wd_k S') := by
  unfold fn_Math_max_10 at h
  cases h
  exact bk_t tb_c_26_0 rfl rfl
/-- java/lang/Math.max(II)I -/
noncomputable def fn_Math_max (p0 : Int32) (p1 : Int32) (S : wd_S) : Option (Int32 × wd_S) :=
  (if p0 < p1 then
    fn_Math_max_10 p1 S
  else
    fn_Math_max_10 p0 S)
theorem sn_Math_max {L : Nat} {xs : Nat → Int32} {p0 : Int32} {p1 : Int32} {S : wd_S} {x : Int32} {S' : wd_S} (h : fn_Math_max p0 p1 S = some (x, S')) : ev_r tb_P L xs (0 + 1) 26 [.int p0, .int p1] (wd_k S) (.inl (some (.int x)), wd_k S') := by
  unfold fn_Math_max at h
  refine ev_of (Nat.le_of_ble_eq_true rfl) ?_
  show go_r tb_P L xs 0 26 0 [(0, .int p0), (1, .int p1)] [] (wd_k S) (.inl (some (.int x)), wd_k S')
  refine bk_b (q := (2, [(0, .int p0), (1, .int p1)], [.int p1, .int p0])) tb_c_26_0 mx_26 2 rfl ?_
  by_cases g1 : p0 < p1
  · rw [if_pos g1] at h
    refine bk_jt tb_c_26_0 rfl (pc' := 9) rfl (cm_lt_t g1) ?_
    refine bk_b (q := (10, [(0, .int p0), (1, .int p1)], [.int p1])) tb_c_26_0 mx_26 1 rfl ?_
    exact go_lv ls_nil (sn_Math_max_10 h)
  · rw [if_neg g1] at h
    refine bk_jf tb_c_26_0 rfl (pc' := 5) rfl (t := 9) rfl (cm_lt_f g1) ?_
    refine bk_b (q := (10, [(0, .int p0), (1, .int p1)], [.int p0])) tb_c_26_0 mx_26 2 rfl ?_
    exact go_lv ls_nil (sn_Math_max_10 h)
