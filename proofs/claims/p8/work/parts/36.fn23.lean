/-! Methods as functions: printed by wip/whole/gen_fn.py. -/
theorem mx_196 : mi_mx tb_P 196 = 2 := rfl
noncomputable def fn_Mo_lay_19 (S : wd_S) : Option wd_S :=
  (wd_b (wd_i S 135 88 ((S.1 135 88) + (1 : Int32))) fun S2 =>
  some S2)
set_option maxRecDepth 100000 in
theorem sn_Mo_lay_19 {L : Nat} {xs : Nat → Int32} {S : wd_S} {S' : wd_S} (h : fn_Mo_lay_19  S = some S') : go_r tb_P L xs 0 196 19 [(0, .ref 135)] [] (wd_k S) (.inl none, wd_k S') := by
  unfold fn_Mo_lay_19 at h
  refine bk_b (q := (21, [(0, .ref 135)], [.ref 135, .ref 135])) tb_c_196_0 mx_196 2 rfl ?_
  refine bk_gi tb_c_196_0 rfl rfl (ci := 11) (k := 88) rfl rfl rfl ?_
  refine bk_b (q := (26, [(0, .ref 135)], [.int ((S.1 135 88) + (1 : Int32)), .ref 135])) tb_c_196_0 mx_196 2 rfl ?_
  obtain ⟨S2, eS2, h⟩ := wd_bx h
  refine bk_pi tb_c_196_0 rfl rfl (ci := 11) (k := 88) rfl rfl rfl rfl ?_
  rw [eS2]
  cases h
  exact bk_t tb_c_196_0 rfl rfl
/-- SpecialiserModel.lay(I)V -/
noncomputable def fn_Mo_lay (p1 : Int32) (S : wd_S) : Option wd_S :=
  (if (S.1 135 88) < (40000 : Int32) then
    (if (S.1 135 88) < 0 ∨ 40000 ≤ (S.1 135 88).toNatClampNeg then none else
    (wd_b (wd_i S 176 (S.1 135 88).toNatClampNeg p1) fun S4 =>
    fn_Mo_lay_19  S4))
  else
    fn_Mo_lay_19  S)
set_option maxRecDepth 100000 in
theorem sn_Mo_lay {L : Nat} {xs : Nat → Int32} {p1 : Int32} {S : wd_S} {S' : wd_S} (h : fn_Mo_lay p1 S = some S') : ev_r tb_P L xs (0 + 1) 196 [.ref 135, .int p1] (wd_k S) (.inl none, wd_k S') := by
  unfold fn_Mo_lay at h
  refine ev_of (Nat.le_of_ble_eq_true rfl) ?_
  show go_r tb_P L xs 0 196 0 [(0, .ref 135), (1, .int p1)] [] (wd_k S) (.inl none, wd_k S')
  refine bk_b (q := (1, [(0, .ref 135), (1, .int p1)], [.ref 135])) tb_c_196_0 mx_196 1 rfl ?_
  refine bk_gi tb_c_196_0 rfl rfl (ci := 11) (k := 88) rfl rfl rfl ?_
  refine bk_c4 tb_c_196_0 rfl rfl (x := (40000 : Int32)) rfl ?_
  by_cases g1 : (S.1 135 88) < (40000 : Int32)
  · rw [if_pos g1] at h
    refine bk_jf tb_c_196_0 rfl (pc' := 9) rfl (t := 19) rfl (cm_ge_f g1) ?_
    refine bk_b (q := (10, [(0, .ref 135), (1, .int p1)], [.ref 135])) tb_c_196_0 mx_196 1 rfl ?_
    refine bk_gc tb_c_196_0 rfl rfl (ci := 11) (k := 87) rfl rfl rfl ?_
    refine bk_b (q := (14, [(0, .ref 135), (1, .int p1)], [.ref 135, .ref 176])) tb_c_196_0 mx_196 1 rfl ?_
    refine bk_gi tb_c_196_0 rfl rfl (ci := 11) (k := 88) rfl rfl rfl ?_
    refine bk_b (q := (18, [(0, .ref 135), (1, .int p1)], [.int p1, .int (S.1 135 88), .ref 176])) tb_c_196_0 mx_196 1 rfl ?_
    by_cases g3 : (S.1 135 88) < 0 ∨ 40000 ≤ (S.1 135 88).toNatClampNeg
    · rw [if_pos g3] at h; cases h
    · rw [if_neg g3] at h
      obtain ⟨S4, eS4, h⟩ := wd_bx h
      refine bk_s4 tb_c_196_0 rfl rfl rfl g3 ?_
      rw [eS4]
      exact go_lv (ls_sc rfl rfl ls_nil) (sn_Mo_lay_19 h)
  · rw [if_neg g1] at h
    refine bk_jt tb_c_196_0 rfl (pc' := 19) rfl (cm_ge_t g1) ?_
    exact go_lv (ls_sc rfl rfl ls_nil) (sn_Mo_lay_19 h)
theorem mx_197 : mi_mx tb_P 197 = 3 := rfl
noncomputable def fn_Mo_figures_18 : Nat → Int32 → Int32 → wd_S → Option wd_S
  | 0, _, _, _ => none
  | n + 1, l1, l2, S =>
    (if 0 < l2 then
      (if l2 = 0 then none else
      (wd_d (fn_Mo_lay ((48 : Int32) + ((l1 / l2) - (l1 / l2) / (10 : Int32) * (10 : Int32))) S) fun S5 =>
      fn_Mo_figures_18 n l1 (l2 / (10 : Int32)) S5))
    else
      some S)
set_option maxRecDepth 100000 in
theorem sn_Mo_figures_18 {L : Nat} {xs : Nat → Int32} : ∀ (n : Nat) {l1 : Int32} {l2 : Int32} {S : wd_S} {S' : wd_S}, fn_Mo_figures_18 n l1 l2 S = some S' → go_r tb_P L xs 1 197 18 [(0, .ref 135), (1, .int l1), (2, .int l2)] [] (wd_k S) (.inl none, wd_k S') := by
  intro n
  induction n with
  | zero => intro l1 l2 S S'  h; cases h
  | succ n ih =>
    intro l1 l2 S S'  h
    rw [fn_Mo_figures_18] at h
    refine bk_b (q := (19, [(0, .ref 135), (1, .int l1), (2, .int l2)], [.int l2])) tb_c_197_0 mx_197 1 rfl ?_
    by_cases g3 : 0 < l2
    · rw [if_pos g3] at h
      refine bk_zf tb_c_197_0 rfl (pc' := 22) rfl (t := 43) rfl (cm_le_f g3) ?_
      refine bk_b (q := (27, [(0, .ref 135), (1, .int l1), (2, .int l2)], [.int l2, .int l1, .int (48 : Int32), .ref 135])) tb_c_197_0 mx_197 4 rfl ?_
      by_cases g4 : l2 = 0
      · rw [if_pos g4] at h; cases h
      · rw [if_neg g4] at h
        refine bk_p tb_c_197_0 (i := .idiv) rfl (st' := [.int (l1 / l2), .int (48 : Int32), .ref 135]) rfl (if_neg g4) ?_
        refine bk_b (q := (32, [(0, .ref 135), (1, .int l1), (2, .int l2)], [.int ((48 : Int32) + ((l1 / l2) - (l1 / l2) / (10 : Int32) * (10 : Int32))), .ref 135])) tb_c_197_0 mx_197 3 rfl ?_
        obtain ⟨S5, c7, h⟩ := wd_dx h
        refine bk_kv tb_c_197_0 rfl rfl rfl rfl rfl (ci := 11) rfl rfl (ev_up (Nat.le_of_ble_eq_true rfl) (sn_Mo_lay c7)) ?_
        refine bk_b (q := (18, [(2, .int (l2 / (10 : Int32))), (0, .ref 135), (1, .int l1)], [])) tb_c_197_0 mx_197 5 rfl ?_
        exact go_lv (ls_sc rfl rfl (ls_sc rfl rfl (ls_sc rfl rfl ls_nil))) (ih h)
    · rw [if_neg g3] at h
      refine bk_zt tb_c_197_0 rfl (pc' := 43) rfl (cm_le_t g3) ?_
      cases h
      exact bk_t tb_c_197_0 rfl rfl
noncomputable def fn_Mo_figures_2 : Nat → Int32 → Int32 → wd_S → Option wd_S
  | 0, _, _, _ => none
  | n + 1, l1, l2, S =>
    (if l2 = 0 then none else
    (if (9 : Int32) < (l1 / l2) then
      fn_Mo_figures_2 n l1 (l2 * (10 : Int32)) S
    else
      fn_Mo_figures_18 wd_F l1 l2 S))
set_option maxRecDepth 100000 in
theorem sn_Mo_figures_2 {L : Nat} {xs : Nat → Int32} : ∀ (n : Nat) {l1 : Int32} {l2 : Int32} {S : wd_S} {S' : wd_S}, fn_Mo_figures_2 n l1 l2 S = some S' → go_r tb_P L xs 1 197 2 [(0, .ref 135), (1, .int l1), (2, .int l2)] [] (wd_k S) (.inl none, wd_k S') := by
  intro n
  induction n with
  | zero => intro l1 l2 S S'  h; cases h
  | succ n ih =>
    intro l1 l2 S S'  h
    rw [fn_Mo_figures_2] at h
    refine bk_b (q := (4, [(0, .ref 135), (1, .int l1), (2, .int l2)], [.int l2, .int l1])) tb_c_197_0 mx_197 2 rfl ?_
    by_cases g1 : l2 = 0
    · rw [if_pos g1] at h; cases h
    · rw [if_neg g1] at h
      refine bk_p tb_c_197_0 (i := .idiv) rfl (st' := [.int (l1 / l2)]) rfl (if_neg g1) ?_
      refine bk_b (q := (7, [(0, .ref 135), (1, .int l1), (2, .int l2)], [.int (9 : Int32), .int (l1 / l2)])) tb_c_197_0 mx_197 1 rfl ?_
      by_cases g2 : (9 : Int32) < (l1 / l2)
      · rw [if_pos g2] at h
        refine bk_jf tb_c_197_0 rfl (pc' := 10) rfl (t := 18) rfl (cm_le_f g2) ?_
        refine bk_b (q := (2, [(2, .int (l2 * (10 : Int32))), (0, .ref 135), (1, .int l1)], [])) tb_c_197_0 mx_197 5 rfl ?_
        exact go_lv (ls_sc rfl rfl (ls_sc rfl rfl (ls_sc rfl rfl ls_nil))) (ih h)
      · rw [if_neg g2] at h
        refine bk_jt tb_c_197_0 rfl (pc' := 18) rfl (cm_le_t g2) ?_
        exact go_lv (ls_sc rfl rfl (ls_sc rfl rfl (ls_sc rfl rfl ls_nil))) (sn_Mo_figures_18 wd_F h)
/-- SpecialiserModel.figures(I)V -/
noncomputable def fn_Mo_figures (p1 : Int32) (S : wd_S) : Option wd_S :=
  fn_Mo_figures_2 wd_F p1 (1 : Int32) S
set_option maxRecDepth 100000 in
theorem sn_Mo_figures {L : Nat} {xs : Nat → Int32} {p1 : Int32} {S : wd_S} {S' : wd_S} (h : fn_Mo_figures p1 S = some S') : ev_r tb_P L xs (1 + 1) 197 [.ref 135, .int p1] (wd_k S) (.inl none, wd_k S') := by
  unfold fn_Mo_figures at h
  refine ev_of (Nat.le_of_ble_eq_true rfl) ?_
  show go_r tb_P L xs 1 197 0 [(0, .ref 135), (1, .int p1)] [] (wd_k S) (.inl none, wd_k S')
  refine bk_b (q := (2, [(2, .int (1 : Int32)), (0, .ref 135), (1, .int p1)], [])) tb_c_197_0 mx_197 2 rfl ?_
  exact go_lv (ls_sc rfl rfl (ls_sc rfl rfl (ls_sc rfl rfl ls_nil))) (sn_Mo_figures_2 wd_F h)
theorem mx_198 : mi_mx tb_P 198 = 6 := rfl
/-- SpecialiserModel.eight(IIIIII)J -/
noncomputable def fn_Mo_eight (p0 : Int32) (p1 : Int32) (p2 : Int32) (p3 : Int32) (p4 : Int32) (p5 : Int32) (S : wd_S) : Option (Int64 × wd_S) :=
  some (((((((((p0).toInt64) <<< (((40 : Int32)).toInt64 &&& 63)) ||| (((p1).toInt64) <<< (((32 : Int32)).toInt64 &&& 63))) ||| (((p2).toInt64) <<< (((24 : Int32)).toInt64 &&& 63))) ||| (((p3 <<< ((16 : Int32) &&& 31))).toInt64)) ||| (((p4 <<< ((8 : Int32) &&& 31))).toInt64)) ||| ((p5).toInt64)), S)
set_option maxRecDepth 100000 in
theorem sn_Mo_eight {L : Nat} {xs : Nat → Int32} {p0 : Int32} {p1 : Int32} {p2 : Int32} {p3 : Int32} {p4 : Int32} {p5 : Int32} {S : wd_S} {x : Int64} {S' : wd_S} (h : fn_Mo_eight p0 p1 p2 p3 p4 p5 S = some (x, S')) : ev_r tb_P L xs (0 + 1) 198 [.int p0, .int p1, .int p2, .int p3, .int p4, .int p5] (wd_k S) (.inl (some (.long x)), wd_k S') := by
  unfold fn_Mo_eight at h
  refine ev_of (Nat.le_of_ble_eq_true rfl) ?_
  show go_r tb_P L xs 0 198 0 [(0, .int p0), (1, .int p1), (2, .int p2), (3, .int p3), (4, .int p4), (5, .int p5)] [] (wd_k S) (.inl (some (.long x)), wd_k S')
  refine bk_b (q := (34, [(0, .int p0), (1, .int p1), (2, .int p2), (3, .int p3), (4, .int p4), (5, .int p5)], [.long ((((((((p0).toInt64) <<< (((40 : Int32)).toInt64 &&& 63)) ||| (((p1).toInt64) <<< (((32 : Int32)).toInt64 &&& 63))) ||| (((p2).toInt64) <<< (((24 : Int32)).toInt64 &&& 63))) ||| (((p3 <<< ((16 : Int32) &&& 31))).toInt64)) ||| (((p4 <<< ((8 : Int32) &&& 31))).toInt64)) ||| ((p5).toInt64))])) tb_c_198_0 mx_198 27 rfl ?_
  cases h
  exact bk_t tb_c_198_0 rfl rfl
theorem mx_199 : mi_mx tb_P 199 = 5 := rfl
noncomputable def fn_Mo_layAll_28 (kk3 : Int64 → Int32 → wd_S → Option wd_S) (l1 : Int64) (l3 : Int32) (S : wd_S) : Option wd_S :=
  kk3 l1 (l3 + (-8 : Int32)) S
set_option maxRecDepth 100000 in
theorem sn_Mo_layAll_28 {L : Nat} {xs : Nat → Int32} {kk3 : Int64 → Int32 → wd_S → Option wd_S} (hk3 : ∀ {l1 : Int64} {l3 : Int32} {S : wd_S} {S' : wd_S}, kk3 l1 l3 S = some S' → go_r tb_P L xs 1 199 3 [(0, .ref 135), (1, .long l1), (3, .int l3)] [] (wd_k S) (.inl none, wd_k S')) {l1 : Int64} {l3 : Int32} {S : wd_S} {S' : wd_S} (h : fn_Mo_layAll_28 kk3 l1 l3 S = some S') : go_r tb_P L xs 1 199 28 [(0, .ref 135), (1, .long l1), (3, .int l3)] [] (wd_k S) (.inl none, wd_k S') := by
  unfold fn_Mo_layAll_28 at h
  refine bk_b (q := (3, [(3, .int (l3 + (-8 : Int32))), (0, .ref 135), (1, .long l1)], [])) tb_c_199_0 mx_199 2 rfl ?_
  exact go_lv (ls_sc rfl rfl (ls_sc rfl rfl (ls_sc rfl rfl ls_nil))) (hk3 h)
noncomputable def fn_Mo_layAll_3 : Nat → Int64 → Int32 → wd_S → Option wd_S
  | 0, _, _, _ => none
  | n + 1, l1, l3, S =>
    (if l3 < 0 then
      some S
    else
      (if ((((l1 >>> ((l3).toInt64 &&& 63)) &&& (255 : Int64))).toInt32) = 0 then
        fn_Mo_layAll_28 (fn_Mo_layAll_3 n) l1 l3 S
      else
        (wd_d (fn_Mo_lay ((((l1 >>> ((l3).toInt64 &&& 63)) &&& (255 : Int64))).toInt32) S) fun S3 =>
        fn_Mo_layAll_28 (fn_Mo_layAll_3 n) l1 l3 S3)))
set_option maxRecDepth 100000 in
theorem sn_Mo_layAll_3 {L : Nat} {xs : Nat → Int32} : ∀ (n : Nat) {l1 : Int64} {l3 : Int32} {S : wd_S} {S' : wd_S}, fn_Mo_layAll_3 n l1 l3 S = some S' → go_r tb_P L xs 1 199 3 [(0, .ref 135), (1, .long l1), (3, .int l3)] [] (wd_k S) (.inl none, wd_k S') := by
  intro n
  induction n with
  | zero => intro l1 l3 S S'  h; cases h
  | succ n ih =>
    intro l1 l3 S S'  h
    rw [fn_Mo_layAll_3] at h
    refine bk_b (q := (4, [(0, .ref 135), (1, .long l1), (3, .int l3)], [.int l3])) tb_c_199_0 mx_199 1 rfl ?_
    by_cases g1 : l3 < 0
    · rw [if_pos g1] at h
      refine bk_zt tb_c_199_0 rfl (pc' := 34) rfl (cm_lt_t g1) ?_
      cases h
      exact bk_t tb_c_199_0 rfl rfl
    · rw [if_neg g1] at h
      refine bk_zf tb_c_199_0 rfl (pc' := 7) rfl (t := 34) rfl (cm_lt_f g1) ?_
      refine bk_b (q := (10, [(0, .ref 135), (1, .long l1), (3, .int l3)], [.long (l1 >>> ((l3).toInt64 &&& 63))])) tb_c_199_0 mx_199 3 rfl ?_
      refine bk_c8 tb_c_199_0 rfl rfl (x := (255 : Int64)) rfl ?_
      refine bk_b (q := (19, [(4, .int ((((l1 >>> ((l3).toInt64 &&& 63)) &&& (255 : Int64))).toInt32)), (0, .ref 135), (1, .long l1), (3, .int l3)], [.int ((((l1 >>> ((l3).toInt64 &&& 63)) &&& (255 : Int64))).toInt32)])) tb_c_199_0 mx_199 4 rfl ?_
      by_cases g2 : ((((l1 >>> ((l3).toInt64 &&& 63)) &&& (255 : Int64))).toInt32) = 0
      · rw [if_pos g2] at h
        refine bk_zt tb_c_199_0 rfl (pc' := 28) rfl (cm_eq_t g2) ?_
        exact go_lv (ls_sc rfl rfl (ls_sc rfl rfl (ls_sc rfl rfl ls_nil))) (sn_Mo_layAll_28 ih h)
      · rw [if_neg g2] at h
        refine bk_zf tb_c_199_0 rfl (pc' := 22) rfl (t := 28) rfl (cm_eq_f g2) ?_
        refine bk_b (q := (25, [(4, .int ((((l1 >>> ((l3).toInt64 &&& 63)) &&& (255 : Int64))).toInt32)), (0, .ref 135), (1, .long l1), (3, .int l3)], [.int ((((l1 >>> ((l3).toInt64 &&& 63)) &&& (255 : Int64))).toInt32), .ref 135])) tb_c_199_0 mx_199 2 rfl ?_
        obtain ⟨S3, c5, h⟩ := wd_dx h
        refine bk_kv tb_c_199_0 rfl rfl rfl rfl rfl (ci := 11) rfl rfl (ev_up (Nat.le_of_ble_eq_true rfl) (sn_Mo_lay c5)) ?_
        exact go_lv (ls_sc rfl rfl (ls_sc rfl rfl (ls_sc rfl rfl ls_nil))) (sn_Mo_layAll_28 ih h)
/-- SpecialiserModel.layAll(J)V -/
noncomputable def fn_Mo_layAll (p1 : Int64) (S : wd_S) : Option wd_S :=
  fn_Mo_layAll_3 wd_F p1 (56 : Int32) S
set_option maxRecDepth 100000 in
theorem sn_Mo_layAll {L : Nat} {xs : Nat → Int32} {p1 : Int64} {S : wd_S} {S' : wd_S} (h : fn_Mo_layAll p1 S = some S') : ev_r tb_P L xs (1 + 1) 199 [.ref 135, .long p1] (wd_k S) (.inl none, wd_k S') := by
  unfold fn_Mo_layAll at h
  refine ev_of (Nat.le_of_ble_eq_true rfl) ?_
  show go_r tb_P L xs 1 199 0 [(0, .ref 135), (1, .long p1)] [] (wd_k S) (.inl none, wd_k S')
  refine bk_b (q := (3, [(3, .int (56 : Int32)), (0, .ref 135), (1, .long p1)], [])) tb_c_199_0 mx_199 2 rfl ?_
  exact go_lv (ls_sc rfl rfl (ls_sc rfl rfl (ls_sc rfl rfl ls_nil))) (sn_Mo_layAll_3 wd_F h)
theorem mx_201 : mi_mx tb_P 201 = 2 := rfl
noncomputable def fn_Mo_layNumber_76 (S : wd_S) : Option wd_S :=
  some S
set_option maxRecDepth 100000 in
theorem sn_Mo_layNumber_76 {L : Nat} {xs : Nat → Int32} {S : wd_S} {S' : wd_S} (h : fn_Mo_layNumber_76  S = some S') : go_r tb_P L xs 2 201 76 [] [] (wd_k S) (.inl none, wd_k S') := by
  unfold fn_Mo_layNumber_76 at h
  cases h
  exact bk_t tb_c_201_0 rfl rfl
noncomputable def fn_Mo_layNumber_73 (s1 : Int32) (S : wd_S) : Option wd_S :=
  (wd_d (fn_Mo_figures s1 S) fun S4 =>
  fn_Mo_layNumber_76  S4)
set_option maxRecDepth 100000 in
theorem sn_Mo_layNumber_73 {L : Nat} {xs : Nat → Int32} {s1 : Int32} {S : wd_S} {S' : wd_S} (h : fn_Mo_layNumber_73 s1 S = some S') : go_r tb_P L xs 2 201 73 [] [.int s1, .ref 135] (wd_k S) (.inl none, wd_k S') := by
  unfold fn_Mo_layNumber_73 at h
  obtain ⟨S4, c6, h⟩ := wd_dx h
  refine bk_kv tb_c_201_0 rfl rfl rfl rfl rfl (ci := 11) rfl rfl (ev_up (Nat.le_of_ble_eq_true rfl) (sn_Mo_figures c6)) ?_
  exact go_lv ls_nil (sn_Mo_layNumber_76 h)
noncomputable def fn_Mo_layNumber_62 (l1 : Int32) (S : wd_S) : Option wd_S :=
  (if l1 < 0 then
    fn_Mo_layNumber_73 (-l1) S
  else
    fn_Mo_layNumber_73 l1 S)
set_option maxRecDepth 100000 in
theorem sn_Mo_layNumber_62 {L : Nat} {xs : Nat → Int32} {l1 : Int32} {S : wd_S} {S' : wd_S} (h : fn_Mo_layNumber_62 l1 S = some S') : go_r tb_P L xs 2 201 62 [(0, .ref 135), (1, .int l1)] [] (wd_k S) (.inl none, wd_k S') := by
  unfold fn_Mo_layNumber_62 at h
  refine bk_b (q := (64, [(0, .ref 135), (1, .int l1)], [.int l1, .ref 135])) tb_c_201_0 mx_201 2 rfl ?_
  by_cases g3 : l1 < 0
  · rw [if_pos g3] at h
    refine bk_zf tb_c_201_0 rfl (pc' := 67) rfl (t := 72) rfl (cm_ge_f g3) ?_
    refine bk_b (q := (73, [(0, .ref 135), (1, .int l1)], [.int (-l1), .ref 135])) tb_c_201_0 mx_201 3 rfl ?_
    exact go_lv ls_nil (sn_Mo_layNumber_73 h)
  · rw [if_neg g3] at h
    refine bk_zt tb_c_201_0 rfl (pc' := 72) rfl (cm_ge_t g3) ?_
    refine bk_b (q := (73, [(0, .ref 135), (1, .int l1)], [.int l1, .ref 135])) tb_c_201_0 mx_201 1 rfl ?_
    exact go_lv ls_nil (sn_Mo_layNumber_73 h)
/-- SpecialiserModel.layNumber(I)V -/
noncomputable def fn_Mo_layNumber (p1 : Int32) (S : wd_S) : Option wd_S :=
  (if p1 = (-2147483648 : Int32) then
    (wd_d (fn_Mo_lay (40 : Int32) S) fun S10 =>
    (wd_d (fn_Mo_lay (45 : Int32) S10) fun S13 =>
    (wd_d (fn_Mo_figures (2147483647 : Int32) S13) fun S16 =>
    (wd_c (fn_Mo_eight (0 : Int32) (0 : Int32) (32 : Int32) (45 : Int32) (32 : Int32) (49 : Int32) S16) fun x20 S19 =>
    (wd_d (fn_Mo_layAll x20 S19) fun S22 =>
    (wd_d (fn_Mo_lay (41 : Int32) S22) fun S25 =>
    fn_Mo_layNumber_76  S25))))))
  else
    (if p1 < 0 then
      (wd_d (fn_Mo_lay (45 : Int32) S) fun S7 =>
      fn_Mo_layNumber_62 p1 S7)
    else
      fn_Mo_layNumber_62 p1 S))
set_option maxRecDepth 100000 in
theorem sn_Mo_layNumber {L : Nat} {xs : Nat → Int32} {p1 : Int32} {S : wd_S} {S' : wd_S} (h : fn_Mo_layNumber p1 S = some S') : ev_r tb_P L xs (2 + 1) 201 [.ref 135, .int p1] (wd_k S) (.inl none, wd_k S') := by
  unfold fn_Mo_layNumber at h
  refine ev_of (Nat.le_of_ble_eq_true rfl) ?_
  show go_r tb_P L xs 2 201 0 [(0, .ref 135), (1, .int p1)] [] (wd_k S) (.inl none, wd_k S')
  refine bk_b (q := (1, [(0, .ref 135), (1, .int p1)], [.int p1])) tb_c_201_0 mx_201 1 rfl ?_
  refine bk_c3 tb_c_201_0 rfl rfl (x := (-2147483648 : Int32)) rfl ?_
  by_cases g1 : p1 = (-2147483648 : Int32)
  · rw [if_pos g1] at h
    refine bk_jf tb_c_201_0 rfl (pc' := 7) rfl (t := 52) rfl (cm_ne_f g1) ?_
    refine bk_b (q := (10, [(0, .ref 135), (1, .int p1)], [.int (40 : Int32), .ref 135])) tb_c_201_0 mx_201 2 rfl ?_
    obtain ⟨S10, c12, h⟩ := wd_dx h
    refine bk_kv tb_c_201_0 rfl rfl rfl rfl rfl (ci := 11) rfl rfl (ev_up (Nat.le_of_ble_eq_true rfl) (sn_Mo_lay c12)) ?_
    refine bk_b (q := (16, [(0, .ref 135), (1, .int p1)], [.int (45 : Int32), .ref 135])) tb_c_201_0 mx_201 2 rfl ?_
    obtain ⟨S13, c15, h⟩ := wd_dx h
    refine bk_kv tb_c_201_0 rfl rfl rfl rfl rfl (ci := 11) rfl rfl (ev_up (Nat.le_of_ble_eq_true rfl) (sn_Mo_lay c15)) ?_
    refine bk_b (q := (20, [(0, .ref 135), (1, .int p1)], [.ref 135])) tb_c_201_0 mx_201 1 rfl ?_
    refine bk_c3 tb_c_201_0 rfl rfl (x := (2147483647 : Int32)) rfl ?_
    obtain ⟨S16, c18, h⟩ := wd_dx h
    refine bk_kv tb_c_201_0 rfl rfl rfl rfl rfl (ci := 11) rfl rfl (ev_up (Nat.le_of_ble_eq_true rfl) (sn_Mo_figures c18)) ?_
    refine bk_b (q := (37, [(0, .ref 135), (1, .int p1)], [.int (49 : Int32), .int (32 : Int32), .int (45 : Int32), .int (32 : Int32), .int (0 : Int32), .int (0 : Int32), .ref 135])) tb_c_201_0 mx_201 7 rfl ?_
    obtain ⟨x20, S19, c21, h⟩ := wd_cx h
    refine bk_ks tb_c_201_0 rfl rfl rfl (by decide) rfl rfl (ev_up (Nat.le_of_ble_eq_true rfl) (sn_Mo_eight c21)) ?_
    obtain ⟨S22, c24, h⟩ := wd_dx h
    refine bk_kv tb_c_201_0 rfl rfl rfl rfl rfl (ci := 11) rfl rfl (ev_up (Nat.le_of_ble_eq_true rfl) (sn_Mo_layAll c24)) ?_
    refine bk_b (q := (46, [(0, .ref 135), (1, .int p1)], [.int (41 : Int32), .ref 135])) tb_c_201_0 mx_201 2 rfl ?_
    obtain ⟨S25, c27, h⟩ := wd_dx h
    refine bk_kv tb_c_201_0 rfl rfl rfl rfl rfl (ci := 11) rfl rfl (ev_up (Nat.le_of_ble_eq_true rfl) (sn_Mo_lay c27)) ?_
    refine bk_b (q := (76, [(0, .ref 135), (1, .int p1)], [])) tb_c_201_0 mx_201 1 rfl ?_
    exact go_lv ls_nil (sn_Mo_layNumber_76 h)
  · rw [if_neg g1] at h
    refine bk_jt tb_c_201_0 rfl (pc' := 52) rfl (cm_ne_t g1) ?_
    refine bk_b (q := (53, [(0, .ref 135), (1, .int p1)], [.int p1])) tb_c_201_0 mx_201 1 rfl ?_
    by_cases g2 : p1 < 0
    · rw [if_pos g2] at h
      refine bk_zf tb_c_201_0 rfl (pc' := 56) rfl (t := 62) rfl (cm_ge_f g2) ?_
      refine bk_b (q := (59, [(0, .ref 135), (1, .int p1)], [.int (45 : Int32), .ref 135])) tb_c_201_0 mx_201 2 rfl ?_
      obtain ⟨S7, c9, h⟩ := wd_dx h
      refine bk_kv tb_c_201_0 rfl rfl rfl rfl rfl (ci := 11) rfl rfl (ev_up (Nat.le_of_ble_eq_true rfl) (sn_Mo_lay c9)) ?_
      exact go_lv (ls_sc rfl rfl (ls_sc rfl rfl ls_nil)) (sn_Mo_layNumber_62 h)
    · rw [if_neg g2] at h
      refine bk_zt tb_c_201_0 rfl (pc' := 62) rfl (cm_ge_t g2) ?_
      exact go_lv (ls_sc rfl rfl (ls_sc rfl rfl ls_nil)) (sn_Mo_layNumber_62 h)
theorem mx_202 : mi_mx tb_P 202 = 3 := rfl
noncomputable def fn_Mo_bytesLater_26 (S : wd_S) : Option wd_S :=
  some S
set_option maxRecDepth 100000 in
theorem sn_Mo_bytesLater_26 {L : Nat} {xs : Nat → Int32} {S : wd_S} {S' : wd_S} (h : fn_Mo_bytesLater_26  S = some S') : go_r tb_P L xs 1 202 26 [] [] (wd_k S) (.inl none, wd_k S') := by
  unfold fn_Mo_bytesLater_26 at h
  cases h
  exact bk_t tb_c_202_0 rfl rfl
/-- SpecialiserModel.bytesLater(J)V -/
noncomputable def fn_Mo_bytesLater (p1 : Int64) (S : wd_S) : Option wd_S :=
  (if (S.1 135 76) < (4000 : Int32) then
    (if (S.1 135 76) < 0 ∨ 4000 ≤ (S.1 135 76).toNatClampNeg then none else
    (wd_b (wd_l S 177 (S.1 135 76).toNatClampNeg p1) fun S3 =>
    (wd_d (fn_Mo_later (1 : Int32) (0 : Int32) S3) fun S4 =>
    fn_Mo_bytesLater_26  S4)))
  else
    fn_Mo_bytesLater_26  S)
set_option maxRecDepth 100000 in
theorem sn_Mo_bytesLater {L : Nat} {xs : Nat → Int32} {p1 : Int64} {S : wd_S} {S' : wd_S} (h : fn_Mo_bytesLater p1 S = some S') : ev_r tb_P L xs (1 + 1) 202 [.ref 135, .long p1] (wd_k S) (.inl none, wd_k S') := by
  unfold fn_Mo_bytesLater at h
  refine ev_of (Nat.le_of_ble_eq_true rfl) ?_
  show go_r tb_P L xs 1 202 0 [(0, .ref 135), (1, .long p1)] [] (wd_k S) (.inl none, wd_k S')
  refine bk_b (q := (1, [(0, .ref 135), (1, .long p1)], [.ref 135])) tb_c_202_0 mx_202 1 rfl ?_
  refine bk_gi tb_c_202_0 rfl rfl (ci := 11) (k := 76) rfl rfl rfl ?_
  refine bk_b (q := (7, [(0, .ref 135), (1, .long p1)], [.int (4000 : Int32), .int (S.1 135 76)])) tb_c_202_0 mx_202 1 rfl ?_
  by_cases g1 : (S.1 135 76) < (4000 : Int32)
  · rw [if_pos g1] at h
    refine bk_jf tb_c_202_0 rfl (pc' := 10) rfl (t := 26) rfl (cm_ge_f g1) ?_
    refine bk_b (q := (11, [(0, .ref 135), (1, .long p1)], [.ref 135])) tb_c_202_0 mx_202 1 rfl ?_
    refine bk_gc tb_c_202_0 rfl rfl (ci := 11) (k := 90) rfl rfl rfl ?_
    refine bk_b (q := (15, [(0, .ref 135), (1, .long p1)], [.ref 135, .ref 177])) tb_c_202_0 mx_202 1 rfl ?_
    refine bk_gi tb_c_202_0 rfl rfl (ci := 11) (k := 76) rfl rfl rfl ?_
    refine bk_b (q := (19, [(0, .ref 135), (1, .long p1)], [.long p1, .int (S.1 135 76), .ref 177])) tb_c_202_0 mx_202 1 rfl ?_
    by_cases g2 : (S.1 135 76) < 0 ∨ 4000 ≤ (S.1 135 76).toNatClampNeg
    · rw [if_pos g2] at h; cases h
    · rw [if_neg g2] at h
      obtain ⟨S3, eS3, h⟩ := wd_bx h
      refine bk_s8 tb_c_202_0 rfl rfl rfl g2 ?_
      rw [eS3]
      refine bk_b (q := (23, [(0, .ref 135), (1, .long p1)], [.int (0 : Int32), .int (1 : Int32), .ref 135])) tb_c_202_0 mx_202 3 rfl ?_
      obtain ⟨S4, c6, h⟩ := wd_dx h
      refine bk_kv tb_c_202_0 rfl rfl rfl rfl rfl (ci := 11) rfl rfl (ev_up (Nat.le_of_ble_eq_true rfl) (sn_Mo_later c6)) ?_
      exact go_lv ls_nil (sn_Mo_bytesLater_26 h)
  · rw [if_neg g1] at h
    refine bk_jt tb_c_202_0 rfl (pc' := 26) rfl (cm_ge_t g1) ?_
    exact go_lv ls_nil (sn_Mo_bytesLater_26 h)
theorem mx_200 : mi_mx tb_P 200 = 4 := rfl
noncomputable def fn_Mo_onExpression_533 (S : wd_S) : Option wd_S :=
  some S
set_option maxRecDepth 100000 in
theorem sn_Mo_onExpression_533 {L : Nat} {xs : Nat → Int32} {S : wd_S} {S' : wd_S} (h : fn_Mo_onExpression_533  S = some S') : go_r tb_P L xs 3 200 533 [] [] (wd_k S) (.inl none, wd_k S') := by
  unfold fn_Mo_onExpression_533 at h
  cases h
  exact bk_t tb_c_200_6 rfl rfl
noncomputable def fn_Mo_onExpression_213 (l1 : Int32) (s1 : Int64) (S : wd_S) : Option wd_S :=
  (wd_d (fn_Mo_bytesLater s1 S) fun S21 =>
  (if l1 < 0 ∨ 15010 ≤ l1.toNatClampNeg then none else
  (wd_d (fn_Mo_later (2 : Int32) (S21.1 144 l1.toNatClampNeg) S21) fun S25 =>
  fn_Mo_onExpression_533  S25)))
set_option maxRecDepth 100000 in
theorem sn_Mo_onExpression_213 {L : Nat} {xs : Nat → Int32} {l1 : Int32} {s1 : Int64} {S : wd_S} {S' : wd_S} (h : fn_Mo_onExpression_213 l1 s1 S = some S') : go_r tb_P L xs 3 200 213 [(0, .ref 135), (1, .int l1)] [.long s1, .ref 135] (wd_k S) (.inl none, wd_k S') := by
  unfold fn_Mo_onExpression_213 at h
  obtain ⟨S21, c23, h⟩ := wd_dx h
  refine bk_kv tb_c_200_2 rfl rfl rfl rfl rfl (ci := 11) rfl rfl (ev_up (Nat.le_of_ble_eq_true rfl) (sn_Mo_bytesLater c23)) ?_
  refine bk_b (q := (219, [(0, .ref 135), (1, .int l1)], [.ref 135, .int (2 : Int32), .ref 135])) tb_c_200_2 mx_200 3 rfl ?_
  refine bk_gc tb_c_200_2 rfl rfl (ci := 11) (k := 18) rfl rfl rfl ?_
  refine bk_b (q := (223, [(0, .ref 135), (1, .int l1)], [.int l1, .ref 144, .int (2 : Int32), .ref 135])) tb_c_200_2 mx_200 1 rfl ?_
  by_cases g24 : l1 < 0 ∨ 15010 ≤ l1.toNatClampNeg
  · rw [if_pos g24] at h; cases h
  · rw [if_neg g24] at h
    refine bk_a4 tb_c_200_2 rfl rfl rfl g24 ?_
    obtain ⟨S25, c27, h⟩ := wd_dx h
    refine bk_kv tb_c_200_2 rfl rfl rfl rfl rfl (ci := 11) rfl rfl (ev_up (Nat.le_of_ble_eq_true rfl) (sn_Mo_later c27)) ?_
    refine bk_b (q := (533, [(0, .ref 135), (1, .int l1)], [])) tb_c_200_2 mx_200 1 rfl ?_
    exact go_lv ls_nil (sn_Mo_onExpression_533 h)
noncomputable def fn_Mo_onExpression_208 (l1 : Int32) (s1 : Int32) (s2 : Int32) (s3 : Int32) (s4 : Int32) (s5 : Int32) (S : wd_S) : Option wd_S :=
  (wd_c (fn_Mo_eight s1 s2 s3 s4 s5 (32 : Int32) S) fun x19 S18 =>
  fn_Mo_onExpression_213 l1 x19 S18)
set_option maxRecDepth 100000 in
theorem sn_Mo_onExpression_208 {L : Nat} {xs : Nat → Int32} {l1 : Int32} {s1 : Int32} {s2 : Int32} {s3 : Int32} {s4 : Int32} {s5 : Int32} {S : wd_S} {S' : wd_S} (h : fn_Mo_onExpression_208 l1 s1 s2 s3 s4 s5 S = some S') : go_r tb_P L xs 3 200 208 [(0, .ref 135), (1, .int l1)] [.int s5, .int s4, .int s3, .int s2, .int s1, .ref 135] (wd_k S) (.inl none, wd_k S') := by
  unfold fn_Mo_onExpression_208 at h
  refine bk_b (q := (210, [(0, .ref 135), (1, .int l1)], [.int (32 : Int32), .int s5, .int s4, .int s3, .int s2, .int s1, .ref 135])) tb_c_200_2 mx_200 1 rfl ?_
  obtain ⟨x19, S18, c20, h⟩ := wd_cx h
  refine bk_ks tb_c_200_2 rfl rfl rfl (by decide) rfl rfl (ev_up (Nat.le_of_ble_eq_true rfl) (sn_Mo_eight c20)) ?_
  exact go_lv (ls_sc rfl rfl (ls_sc rfl rfl ls_nil)) (sn_Mo_onExpression_213 h)
noncomputable def fn_Mo_onExpression_527 (kk486 : Int32 → Int32 → wd_S → Option wd_S) (l1 : Int32) (l3 : Int32) (S : wd_S) : Option wd_S :=
  kk486 l1 (l3 + (-1 : Int32)) S
set_option maxRecDepth 100000 in
theorem sn_Mo_onExpression_527 {L : Nat} {xs : Nat → Int32} {kk486 : Int32 → Int32 → wd_S → Option wd_S} (hk486 : ∀ {l1 : Int32} {l3 : Int32} {S : wd_S} {S' : wd_S}, kk486 l1 l3 S = some S' → go_r tb_P L xs 3 200 486 [(0, .ref 135), (1, .int l1), (3, .int l3)] [] (wd_k S) (.inl none, wd_k S')) {l1 : Int32} {l3 : Int32} {S : wd_S} {S' : wd_S} (h : fn_Mo_onExpression_527 kk486 l1 l3 S = some S') : go_r tb_P L xs 3 200 527 [(0, .ref 135), (1, .int l1), (3, .int l3)] [] (wd_k S) (.inl none, wd_k S') := by
  unfold fn_Mo_onExpression_527 at h
  refine bk_b (q := (486, [(3, .int (l3 + (-1 : Int32))), (0, .ref 135), (1, .int l1)], [])) tb_c_200_6 mx_200 2 rfl ?_
  exact go_lv (ls_sc rfl rfl (ls_sc rfl rfl (ls_sc rfl rfl ls_nil))) (hk486 h)
noncomputable def fn_Mo_onExpression_486 : Nat → Int32 → Int32 → wd_S → Option wd_S
  | 0, _, _, _ => none
  | n + 1, l1, l3, S =>
    (if l3 < 0 then
      fn_Mo_onExpression_533  S
    else
      (if l1 < 0 ∨ 15010 ≤ l1.toNatClampNeg then none else
      (if ((S.1 144 l1.toNatClampNeg) + l3) < 0 ∨ 15010 ≤ ((S.1 144 l1.toNatClampNeg) + l3).toNatClampNeg then none else
      (wd_d (fn_Mo_later (2 : Int32) (S.1 149 ((S.1 144 l1.toNatClampNeg) + l3).toNatClampNeg) S) fun S120 =>
      (if 0 < l3 then
        (wd_c (fn_Mo_eight (0 : Int32) (0 : Int32) (0 : Int32) (0 : Int32) (44 : Int32) (32 : Int32) S120) fun x125 S124 =>
        (wd_d (fn_Mo_bytesLater x125 S124) fun S127 =>
        fn_Mo_onExpression_527 (fn_Mo_onExpression_486 n) l1 l3 S127))
      else
        fn_Mo_onExpression_527 (fn_Mo_onExpression_486 n) l1 l3 S120)))))
set_option maxRecDepth 100000 in
theorem sn_Mo_onExpression_486 {L : Nat} {xs : Nat → Int32} : ∀ (n : Nat) {l1 : Int32} {l3 : Int32} {S : wd_S} {S' : wd_S}, fn_Mo_onExpression_486 n l1 l3 S = some S' → go_r tb_P L xs 3 200 486 [(0, .ref 135), (1, .int l1), (3, .int l3)] [] (wd_k S) (.inl none, wd_k S') := by
  intro n
  induction n with
  | zero => intro l1 l3 S S'  h; cases h
  | succ n ih =>
    intro l1 l3 S S'  h
    rw [fn_Mo_onExpression_486] at h
    refine bk_b (q := (487, [(0, .ref 135), (1, .int l1), (3, .int l3)], [.int l3])) tb_c_200_6 mx_200 1 rfl ?_
    by_cases g117 : l3 < 0
    · rw [if_pos g117] at h
      refine bk_zt tb_c_200_6 rfl (pc' := 533) rfl (cm_lt_t g117) ?_
      exact go_lv ls_nil (sn_Mo_onExpression_533 h)
    · rw [if_neg g117] at h
      refine bk_zf tb_c_200_6 rfl (pc' := 490) rfl (t := 533) rfl (cm_lt_f g117) ?_
      refine bk_b (q := (493, [(0, .ref 135), (1, .int l1), (3, .int l3)], [.ref 135, .int (2 : Int32), .ref 135])) tb_c_200_6 mx_200 3 rfl ?_
      refine bk_gc tb_c_200_6 rfl rfl (ci := 11) (k := 23) rfl rfl rfl ?_
      refine bk_b (q := (497, [(0, .ref 135), (1, .int l1), (3, .int l3)], [.ref 135, .ref 149, .int (2 : Int32), .ref 135])) tb_c_200_6 mx_200 1 rfl ?_
      refine bk_gc tb_c_200_6 rfl rfl (ci := 11) (k := 18) rfl rfl rfl ?_
      refine bk_b (q := (501, [(0, .ref 135), (1, .int l1), (3, .int l3)], [.int l1, .ref 144, .ref 149, .int (2 : Int32), .ref 135])) tb_c_200_6 mx_200 1 rfl ?_
      by_cases g118 : l1 < 0 ∨ 15010 ≤ l1.toNatClampNeg
      · rw [if_pos g118] at h; cases h
      · rw [if_neg g118] at h
        refine bk_a4 tb_c_200_6 rfl rfl rfl g118 ?_
        refine bk_b (q := (504, [(0, .ref 135), (1, .int l1), (3, .int l3)], [.int ((S.1 144 l1.toNatClampNeg) + l3), .ref 149, .int (2 : Int32), .ref 135])) tb_c_200_6 mx_200 2 rfl ?_
        by_cases g119 : ((S.1 144 l1.toNatClampNeg) + l3) < 0 ∨ 15010 ≤ ((S.1 144 l1.toNatClampNeg) + l3).toNatClampNeg
        · rw [if_pos g119] at h; cases h
        · rw [if_neg g119] at h
          refine bk_a4 tb_c_200_6 rfl rfl rfl g119 ?_
          obtain ⟨S120, c122, h⟩ := wd_dx h
          refine bk_kv tb_c_200_6 rfl rfl rfl rfl rfl (ci := 11) rfl rfl (ev_up (Nat.le_of_ble_eq_true rfl) (sn_Mo_later c122)) ?_
          refine bk_b (q := (509, [(0, .ref 135), (1, .int l1), (3, .int l3)], [.int l3])) tb_c_200_6 mx_200 1 rfl ?_
          by_cases g123 : 0 < l3
          · rw [if_pos g123] at h
            refine bk_zf tb_c_200_6 rfl (pc' := 512) rfl (t := 527) rfl (cm_le_f g123) ?_
            refine bk_b (q := (521, [(0, .ref 135), (1, .int l1), (3, .int l3)], [.int (32 : Int32), .int (44 : Int32), .int (0 : Int32), .int (0 : Int32), .int (0 : Int32), .int (0 : Int32), .ref 135])) tb_c_200_6 mx_200 7 rfl ?_
            obtain ⟨x125, S124, c126, h⟩ := wd_cx h
            refine bk_ks tb_c_200_6 rfl rfl rfl (by decide) rfl rfl (ev_up (Nat.le_of_ble_eq_true rfl) (sn_Mo_eight c126)) ?_
            obtain ⟨S127, c129, h⟩ := wd_dx h
            refine bk_kv tb_c_200_6 rfl rfl rfl rfl rfl (ci := 11) rfl rfl (ev_up (Nat.le_of_ble_eq_true rfl) (sn_Mo_bytesLater c129)) ?_
            exact go_lv (ls_sc rfl rfl (ls_sc rfl rfl (ls_sc rfl rfl ls_nil))) (sn_Mo_onExpression_527 ih h)
          · rw [if_neg g123] at h
            refine bk_zt tb_c_200_6 rfl (pc' := 527) rfl (cm_le_t g123) ?_
            exact go_lv (ls_sc rfl rfl (ls_sc rfl rfl (ls_sc rfl rfl ls_nil))) (sn_Mo_onExpression_527 ih h)
/-- SpecialiserModel.onExpression(I)V -/
noncomputable def fn_Mo_onExpression (p1 : Int32) (S : wd_S) : Option wd_S :=
  (if p1 < 0 ∨ 15010 ≤ p1.toNatClampNeg then none else
  (if (S.1 143 p1.toNatClampNeg) = (1 : Int32) then
    (if p1 < 0 ∨ 15010 ≤ p1.toNatClampNeg then none else
    (wd_d (fn_Mo_lay (40 : Int32) S) fun S4 =>
    (wd_d (fn_Mo_bytesLater (41 : Int64) S4) fun S7 =>
    (if p1 < 0 ∨ 15010 ≤ p1.toNatClampNeg then none else
    (wd_d (fn_Mo_later (2 : Int32) (S7.1 145 p1.toNatClampNeg) S7) fun S11 =>
    (if (S.1 146 p1.toNatClampNeg) = (12 : Int32) then
      (wd_c (fn_Mo_eight (0 : Int32) (0 : Int32) (32 : Int32) (61 : Int32) (61 : Int32) (32 : Int32) S11) fun x29 S28 =>
      fn_Mo_onExpression_213 p1 x29 S28)
    else
      (if (S.1 146 p1.toNatClampNeg) = (19 : Int32) then
        fn_Mo_onExpression_208 p1 (0 : Int32) (0 : Int32) (0 : Int32) (32 : Int32) (43 : Int32) S11
      else
        (if (S.1 146 p1.toNatClampNeg) = (20 : Int32) then
          fn_Mo_onExpression_208 p1 (0 : Int32) (0 : Int32) (0 : Int32) (32 : Int32) (45 : Int32) S11
        else
          (if (S.1 146 p1.toNatClampNeg) = (21 : Int32) then
            fn_Mo_onExpression_208 p1 (0 : Int32) (0 : Int32) (0 : Int32) (32 : Int32) (42 : Int32) S11
          else
            fn_Mo_onExpression_208 p1 (0 : Int32) (0 : Int32) (0 : Int32) (32 : Int32) (60 : Int32) S11)))))))))
  else
  (if (S.1 143 p1.toNatClampNeg) = (2 : Int32) then
    (wd_c (fn_Mo_eight (0 : Int32) (0 : Int32) (40 : Int32) (105 : Int32) (102 : Int32) (32 : Int32) S) fun x33 S32 =>
    (wd_d (fn_Mo_layAll x33 S32) fun S35 =>
    (wd_d (fn_Mo_bytesLater (41 : Int64) S35) fun S38 =>
    (if p1 < 0 ∨ 15010 ≤ p1.toNatClampNeg then none else
    (wd_d (fn_Mo_later (2 : Int32) (S38.1 146 p1.toNatClampNeg) S38) fun S42 =>
    (wd_c (fn_Mo_eight (32 : Int32) (101 : Int32) (108 : Int32) (115 : Int32) (101 : Int32) (32 : Int32) S42) fun x46 S45 =>
    (wd_d (fn_Mo_bytesLater x46 S45) fun S48 =>
    (if p1 < 0 ∨ 15010 ≤ p1.toNatClampNeg then none else
    (wd_d (fn_Mo_later (2 : Int32) (S48.1 145 p1.toNatClampNeg) S48) fun S52 =>
    (wd_c (fn_Mo_eight (32 : Int32) (116 : Int32) (104 : Int32) (101 : Int32) (110 : Int32) (32 : Int32) S52) fun x56 S55 =>
    (wd_d (fn_Mo_bytesLater x56 S55) fun S58 =>
    (if p1 < 0 ∨ 15010 ≤ p1.toNatClampNeg then none else
    (wd_d (fn_Mo_later (2 : Int32) (S58.1 144 p1.toNatClampNeg) S58) fun S62 =>
    fn_Mo_onExpression_533  S62)))))))))))))
  else
  (if (S.1 143 p1.toNatClampNeg) = (3 : Int32) then
    (if p1 < 0 ∨ 15010 ≤ p1.toNatClampNeg then none else
    (if (S.1 146 p1.toNatClampNeg) < 0 ∨ 16 ≤ (S.1 146 p1.toNatClampNeg).toNatClampNeg then none else
    (wd_b (wd_i S 178 (S.1 146 p1.toNatClampNeg).toNatClampNeg (S.1 135 92)) fun S68 =>
    (wd_c (fn_Mo_eight (40 : Int32) (108 : Int32) (101 : Int32) (116 : Int32) (32 : Int32) (120 : Int32) S68) fun x70 S69 =>
    (wd_d (fn_Mo_layAll x70 S69) fun S72 =>
    (wd_d (fn_Mo_figures (S72.1 135 92) S72) fun S75 =>
    (wd_b (wd_i S75 135 92 ((S75.1 135 92) + (1 : Int32))) fun S78 =>
    (wd_c (fn_Mo_eight (0 : Int32) (0 : Int32) (0 : Int32) (32 : Int32) (61 : Int32) (32 : Int32) S78) fun x80 S79 =>
    (wd_d (fn_Mo_layAll x80 S79) fun S82 =>
    (wd_d (fn_Mo_bytesLater (41 : Int64) S82) fun S85 =>
    (if p1 < 0 ∨ 15010 ≤ p1.toNatClampNeg then none else
    (wd_d (fn_Mo_later (2 : Int32) (S85.1 145 p1.toNatClampNeg) S85) fun S89 =>
    (wd_c (fn_Mo_eight (0 : Int32) (0 : Int32) (32 : Int32) (105 : Int32) (110 : Int32) (32 : Int32) S89) fun x93 S92 =>
    (wd_d (fn_Mo_bytesLater x93 S92) fun S95 =>
    (if p1 < 0 ∨ 15010 ≤ p1.toNatClampNeg then none else
    (wd_d (fn_Mo_later (2 : Int32) (S95.1 144 p1.toNatClampNeg) S95) fun S99 =>
    fn_Mo_onExpression_533  S99))))))))))))))))
  else
  (if (S.1 143 p1.toNatClampNeg) = (4 : Int32) then
    (wd_d (fn_Mo_lay (118 : Int32) S) fun S103 =>
    (if p1 < 0 ∨ 15010 ≤ p1.toNatClampNeg then none else
    (wd_d (fn_Mo_figures ((S103.1 146 p1.toNatClampNeg) - (S103.1 146 p1.toNatClampNeg) / (80 : Int32) * (80 : Int32)) S103) fun S107 =>
    (wd_d (fn_Mo_lay (40 : Int32) S107) fun S110 =>
    (wd_d (fn_Mo_bytesLater (41 : Int64) S110) fun S113 =>
    (if p1 < 0 ∨ 15010 ≤ p1.toNatClampNeg then none else
    fn_Mo_onExpression_486 wd_F p1 ((S113.1 145 p1.toNatClampNeg) - (1 : Int32)) S113))))))
  else
  (if (S.1 143 p1.toNatClampNeg) = (5 : Int32) then
    (if p1 < 0 ∨ 15010 ≤ p1.toNatClampNeg then none else
    (wd_d (fn_Mo_layNumber (S.1 144 p1.toNatClampNeg) S) fun S132 =>
    fn_Mo_onExpression_533  S132))
  else
  (if (S.1 143 p1.toNatClampNeg) = (6 : Int32) then
    (wd_d (fn_Mo_lay (118 : Int32) S) fun S136 =>
    (if p1 < 0 ∨ 15010 ≤ p1.toNatClampNeg then none else
    (wd_d (fn_Mo_figures ((S136.1 146 p1.toNatClampNeg) - (S136.1 146 p1.toNatClampNeg) / (80 : Int32) * (80 : Int32)) S136) fun S140 =>
    (wd_d (fn_Mo_lay (40 : Int32) S140) fun S143 =>
    (wd_d (fn_Mo_bytesLater (41 : Int64) S143) fun S146 =>
    (if p1 < 0 ∨ 15010 ≤ p1.toNatClampNeg then none else
    fn_Mo_onExpression_486 wd_F p1 ((S146.1 145 p1.toNatClampNeg) - (1 : Int32)) S146))))))
  else
  (if (S.1 143 p1.toNatClampNeg) = (7 : Int32) then
    (if p1 < 0 ∨ 15010 ≤ p1.toNatClampNeg then none else
    (if (S.1 144 p1.toNatClampNeg) < (S.1 135 93) then
      (if p1 < 0 ∨ 15010 ≤ p1.toNatClampNeg then none else
      (wd_d (fn_Mo_lay ((97 : Int32) + (S.1 144 p1.toNatClampNeg)) S) fun S162 =>
      fn_Mo_onExpression_533  S162))
    else
      (wd_d (fn_Mo_lay (120 : Int32) S) fun S153 =>
      (if p1 < 0 ∨ 15010 ≤ p1.toNatClampNeg then none else
      (if (S153.1 144 p1.toNatClampNeg) < 0 ∨ 16 ≤ (S153.1 144 p1.toNatClampNeg).toNatClampNeg then none else
      (wd_d (fn_Mo_figures (S153.1 178 (S153.1 144 p1.toNatClampNeg).toNatClampNeg) S153) fun S158 =>
      fn_Mo_onExpression_533  S158))))))
  else
  (wd_d (fn_Mo_lay (118 : Int32) S) fun S165 =>
  (if p1 < 0 ∨ 15010 ≤ p1.toNatClampNeg then none else
  (wd_d (fn_Mo_figures ((S165.1 146 p1.toNatClampNeg) - (S165.1 146 p1.toNatClampNeg) / (80 : Int32) * (80 : Int32)) S165) fun S169 =>
  (wd_d (fn_Mo_lay (40 : Int32) S169) fun S172 =>
  (wd_d (fn_Mo_bytesLater (41 : Int64) S172) fun S175 =>
  (if p1 < 0 ∨ 15010 ≤ p1.toNatClampNeg then none else
  fn_Mo_onExpression_486 wd_F p1 ((S175.1 145 p1.toNatClampNeg) - (1 : Int32)) S175))))))))))))))
set_option maxRecDepth 100000 in
theorem sn_Mo_onExpression {L : Nat} {xs : Nat → Int32} {p1 : Int32} {S : wd_S} {S' : wd_S} (h : fn_Mo_onExpression p1 S = some S') : ev_r tb_P L xs (3 + 1) 200 [.ref 135, .int p1] (wd_k S) (.inl none, wd_k S') := by
  unfold fn_Mo_onExpression at h
  refine ev_of (Nat.le_of_ble_eq_true rfl) ?_
  show go_r tb_P L xs 3 200 0 [(0, .ref 135), (1, .int p1)] [] (wd_k S) (.inl none, wd_k S')
  refine bk_b (q := (1, [(0, .ref 135), (1, .int p1)], [.ref 135])) tb_c_200_0 mx_200 1 rfl ?_
  refine bk_gc tb_c_200_0 rfl rfl (ci := 11) (k := 17) rfl rfl rfl ?_
  refine bk_b (q := (5, [(0, .ref 135), (1, .int p1)], [.int p1, .ref 143])) tb_c_200_0 mx_200 1 rfl ?_
  by_cases g1 : p1 < 0 ∨ 15010 ≤ p1.toNatClampNeg
  · rw [if_pos g1] at h; cases h
  · rw [if_neg g1] at h
    refine bk_a4 tb_c_200_0 rfl rfl rfl g1 ?_
    by_cases g2 : (S.1 143 p1.toNatClampNeg) = (1 : Int32)
    · rw [if_pos g2] at h
      refine bk_sw tb_c_200_0 rfl (pc' := 114) (by rw [g2]; rfl) ?_
      refine bk_b (q := (115, [(0, .ref 135), (1, .int p1)], [.ref 135])) tb_c_200_1 mx_200 1 rfl ?_
      refine bk_gc tb_c_200_1 rfl rfl (ci := 11) (k := 20) rfl rfl rfl ?_
      refine bk_b (q := (119, [(0, .ref 135), (1, .int p1)], [.int p1, .ref 146])) tb_c_200_1 mx_200 1 rfl ?_
      by_cases g3 : p1 < 0 ∨ 15010 ≤ p1.toNatClampNeg
      · rw [if_pos g3] at h; cases h
      · rw [if_neg g3] at h
        refine bk_a4 tb_c_200_1 rfl rfl rfl g3 ?_
        refine bk_b (q := (124, [(2, .int (S.1 146 p1.toNatClampNeg)), (0, .ref 135), (1, .int p1)], [.int (40 : Int32), .ref 135])) tb_c_200_1 mx_200 3 rfl ?_
        obtain ⟨S4, c6, h⟩ := wd_dx h
        refine bk_kv tb_c_200_1 rfl rfl rfl rfl rfl (ci := 11) rfl rfl (ev_up (Nat.le_of_ble_eq_true rfl) (sn_Mo_lay c6)) ?_
        refine bk_b (q := (128, [(2, .int (S.1 146 p1.toNatClampNeg)), (0, .ref 135), (1, .int p1)], [.ref 135])) tb_c_200_1 mx_200 1 rfl ?_
        refine bk_c8 tb_c_200_1 rfl rfl (x := (41 : Int64)) rfl ?_
        obtain ⟨S7, c9, h⟩ := wd_dx h
        refine bk_kv tb_c_200_1 rfl rfl rfl rfl rfl (ci := 11) rfl rfl (ev_up (Nat.le_of_ble_eq_true rfl) (sn_Mo_bytesLater c9)) ?_
        refine bk_b (q := (137, [(2, .int (S.1 146 p1.toNatClampNeg)), (0, .ref 135), (1, .int p1)], [.ref 135, .int (2 : Int32), .ref 135])) tb_c_200_1 mx_200 3 rfl ?_
        refine bk_gc tb_c_200_1 rfl rfl (ci := 11) (k := 19) rfl rfl rfl ?_
        refine bk_b (q := (141, [(2, .int (S.1 146 p1.toNatClampNeg)), (0, .ref 135), (1, .int p1)], [.int p1, .ref 145, .int (2 : Int32), .ref 135])) tb_c_200_1 mx_200 1 rfl ?_
        by_cases g10 : p1 < 0 ∨ 15010 ≤ p1.toNatClampNeg
        · rw [if_pos g10] at h; cases h
        · rw [if_neg g10] at h
          refine bk_a4 tb_c_200_1 rfl rfl rfl g10 ?_
          obtain ⟨S11, c13, h⟩ := wd_dx h
          refine bk_kv tb_c_200_1 rfl rfl rfl rfl rfl (ci := 11) rfl rfl (ev_up (Nat.le_of_ble_eq_true rfl) (sn_Mo_later c13)) ?_
          refine bk_b (q := (149, [(2, .int (S.1 146 p1.toNatClampNeg)), (0, .ref 135), (1, .int p1)], [.int (12 : Int32), .int (S.1 146 p1.toNatClampNeg), .ref 135])) tb_c_200_1 mx_200 3 rfl ?_
          by_cases g14 : (S.1 146 p1.toNatClampNeg) = (12 : Int32)
          · rw [if_pos g14] at h
            refine bk_jf tb_c_200_1 rfl (pc' := 152) rfl (t := 168) rfl (cm_ne_f g14) ?_
            refine bk_b (q := (162, [(2, .int (S.1 146 p1.toNatClampNeg)), (0, .ref 135), (1, .int p1)], [.int (32 : Int32), .int (61 : Int32), .int (61 : Int32), .int (32 : Int32), .int (0 : Int32), .int (0 : Int32), .ref 135])) tb_c_200_1 mx_200 6 rfl ?_
            obtain ⟨x29, S28, c30, h⟩ := wd_cx h
            refine bk_ks tb_c_200_1 rfl rfl rfl (by decide) rfl rfl (ev_up (Nat.le_of_ble_eq_true rfl) (sn_Mo_eight c30)) ?_
            refine bk_b (q := (213, [(2, .int (S.1 146 p1.toNatClampNeg)), (0, .ref 135), (1, .int p1)], [.long x29, .ref 135])) tb_c_200_1 mx_200 1 rfl ?_
            exact go_lv (ls_sc rfl rfl (ls_sc rfl rfl ls_nil)) (sn_Mo_onExpression_213 h)
          · rw [if_neg g14] at h
            refine bk_jt tb_c_200_1 rfl (pc' := 168) rfl (cm_ne_t g14) ?_
            refine bk_b (q := (176, [(2, .int (S.1 146 p1.toNatClampNeg)), (0, .ref 135), (1, .int p1)], [.int (19 : Int32), .int (S.1 146 p1.toNatClampNeg), .int (32 : Int32), .int (0 : Int32), .int (0 : Int32), .int (0 : Int32), .ref 135])) tb_c_200_1 mx_200 6 rfl ?_
            by_cases g15 : (S.1 146 p1.toNatClampNeg) = (19 : Int32)
            · rw [if_pos g15] at h
              refine bk_jf tb_c_200_1 rfl (pc' := 179) rfl (t := 184) rfl (cm_ne_f g15) ?_
              refine bk_b (q := (208, [(2, .int (S.1 146 p1.toNatClampNeg)), (0, .ref 135), (1, .int p1)], [.int (43 : Int32), .int (32 : Int32), .int (0 : Int32), .int (0 : Int32), .int (0 : Int32), .ref 135])) tb_c_200_1 mx_200 2 rfl ?_
              exact go_lv (ls_sc rfl rfl (ls_sc rfl rfl ls_nil)) (sn_Mo_onExpression_208 h)
            · rw [if_neg g15] at h
              refine bk_jt tb_c_200_1 rfl (pc' := 184) rfl (cm_ne_t g15) ?_
              refine bk_b (q := (187, [(2, .int (S.1 146 p1.toNatClampNeg)), (0, .ref 135), (1, .int p1)], [.int (20 : Int32), .int (S.1 146 p1.toNatClampNeg), .int (32 : Int32), .int (0 : Int32), .int (0 : Int32), .int (0 : Int32), .ref 135])) tb_c_200_2 mx_200 2 rfl ?_
              by_cases g16 : (S.1 146 p1.toNatClampNeg) = (20 : Int32)
              · rw [if_pos g16] at h
                refine bk_jf tb_c_200_2 rfl (pc' := 190) rfl (t := 195) rfl (cm_ne_f g16) ?_
                refine bk_b (q := (208, [(2, .int (S.1 146 p1.toNatClampNeg)), (0, .ref 135), (1, .int p1)], [.int (45 : Int32), .int (32 : Int32), .int (0 : Int32), .int (0 : Int32), .int (0 : Int32), .ref 135])) tb_c_200_2 mx_200 2 rfl ?_
                exact go_lv (ls_sc rfl rfl (ls_sc rfl rfl ls_nil)) (sn_Mo_onExpression_208 h)
              · rw [if_neg g16] at h
                refine bk_jt tb_c_200_2 rfl (pc' := 195) rfl (cm_ne_t g16) ?_
                refine bk_b (q := (198, [(2, .int (S.1 146 p1.toNatClampNeg)), (0, .ref 135), (1, .int p1)], [.int (21 : Int32), .int (S.1 146 p1.toNatClampNeg), .int (32 : Int32), .int (0 : Int32), .int (0 : Int32), .int (0 : Int32), .ref 135])) tb_c_200_2 mx_200 2 rfl ?_
                by_cases g17 : (S.1 146 p1.toNatClampNeg) = (21 : Int32)
                · rw [if_pos g17] at h
                  refine bk_jf tb_c_200_2 rfl (pc' := 201) rfl (t := 206) rfl (cm_ne_f g17) ?_
                  refine bk_b (q := (208, [(2, .int (S.1 146 p1.toNatClampNeg)), (0, .ref 135), (1, .int p1)], [.int (42 : Int32), .int (32 : Int32), .int (0 : Int32), .int (0 : Int32), .int (0 : Int32), .ref 135])) tb_c_200_2 mx_200 2 rfl ?_
                  exact go_lv (ls_sc rfl rfl (ls_sc rfl rfl ls_nil)) (sn_Mo_onExpression_208 h)
                · rw [if_neg g17] at h
                  refine bk_jt tb_c_200_2 rfl (pc' := 206) rfl (cm_ne_t g17) ?_
                  refine bk_b (q := (208, [(2, .int (S.1 146 p1.toNatClampNeg)), (0, .ref 135), (1, .int p1)], [.int (60 : Int32), .int (32 : Int32), .int (0 : Int32), .int (0 : Int32), .int (0 : Int32), .ref 135])) tb_c_200_2 mx_200 1 rfl ?_
                  exact go_lv (ls_sc rfl rfl (ls_sc rfl rfl ls_nil)) (sn_Mo_onExpression_208 h)
    · rw [if_neg g2] at h
      by_cases g31 : (S.1 143 p1.toNatClampNeg) = (2 : Int32)
      · rw [if_pos g31] at h
        refine bk_sw tb_c_200_0 rfl (pc' := 230) (by rw [g31]; rfl) ?_
        refine bk_b (q := (241, [(0, .ref 135), (1, .int p1)], [.int (32 : Int32), .int (102 : Int32), .int (105 : Int32), .int (40 : Int32), .int (0 : Int32), .int (0 : Int32), .ref 135])) tb_c_200_2 mx_200 7 rfl ?_
        obtain ⟨x33, S32, c34, h⟩ := wd_cx h
        refine bk_ks tb_c_200_2 rfl rfl rfl (by decide) rfl rfl (ev_up (Nat.le_of_ble_eq_true rfl) (sn_Mo_eight c34)) ?_
        obtain ⟨S35, c37, h⟩ := wd_dx h
        refine bk_kv tb_c_200_2 rfl rfl rfl rfl rfl (ci := 11) rfl rfl (ev_up (Nat.le_of_ble_eq_true rfl) (sn_Mo_layAll c37)) ?_
        refine bk_b (q := (248, [(0, .ref 135), (1, .int p1)], [.ref 135])) tb_c_200_2 mx_200 1 rfl ?_
        refine bk_c8 tb_c_200_2 rfl rfl (x := (41 : Int64)) rfl ?_
        obtain ⟨S38, c40, h⟩ := wd_dx h
        refine bk_kv tb_c_200_2 rfl rfl rfl rfl rfl (ci := 11) rfl rfl (ev_up (Nat.le_of_ble_eq_true rfl) (sn_Mo_bytesLater c40)) ?_
        refine bk_b (q := (257, [(0, .ref 135), (1, .int p1)], [.ref 135, .int (2 : Int32), .ref 135])) tb_c_200_2 mx_200 3 rfl ?_
        refine bk_gc tb_c_200_2 rfl rfl (ci := 11) (k := 20) rfl rfl rfl ?_
        refine bk_b (q := (261, [(0, .ref 135), (1, .int p1)], [.int p1, .ref 146, .int (2 : Int32), .ref 135])) tb_c_200_2 mx_200 1 rfl ?_
        by_cases g41 : p1 < 0 ∨ 15010 ≤ p1.toNatClampNeg
        · rw [if_pos g41] at h; cases h
        · rw [if_neg g41] at h
          refine bk_a4 tb_c_200_2 rfl rfl rfl g41 ?_
          obtain ⟨S42, c44, h⟩ := wd_dx h
          refine bk_kv tb_c_200_3 rfl rfl rfl rfl rfl (ci := 11) rfl rfl (ev_up (Nat.le_of_ble_eq_true rfl) (sn_Mo_later c44)) ?_
          refine bk_b (q := (278, [(0, .ref 135), (1, .int p1)], [.int (32 : Int32), .int (101 : Int32), .int (115 : Int32), .int (108 : Int32), .int (101 : Int32), .int (32 : Int32), .ref 135])) tb_c_200_3 mx_200 7 rfl ?_
          obtain ⟨x46, S45, c47, h⟩ := wd_cx h
          refine bk_ks tb_c_200_3 rfl rfl rfl (by decide) rfl rfl (ev_up (Nat.le_of_ble_eq_true rfl) (sn_Mo_eight c47)) ?_
          obtain ⟨S48, c50, h⟩ := wd_dx h
          refine bk_kv tb_c_200_3 rfl rfl rfl rfl rfl (ci := 11) rfl rfl (ev_up (Nat.le_of_ble_eq_true rfl) (sn_Mo_bytesLater c50)) ?_
          refine bk_b (q := (287, [(0, .ref 135), (1, .int p1)], [.ref 135, .int (2 : Int32), .ref 135])) tb_c_200_3 mx_200 3 rfl ?_
          refine bk_gc tb_c_200_3 rfl rfl (ci := 11) (k := 19) rfl rfl rfl ?_
          refine bk_b (q := (291, [(0, .ref 135), (1, .int p1)], [.int p1, .ref 145, .int (2 : Int32), .ref 135])) tb_c_200_3 mx_200 1 rfl ?_
          by_cases g51 : p1 < 0 ∨ 15010 ≤ p1.toNatClampNeg
          · rw [if_pos g51] at h; cases h
          · rw [if_neg g51] at h
            refine bk_a4 tb_c_200_3 rfl rfl rfl g51 ?_
            obtain ⟨S52, c54, h⟩ := wd_dx h
            refine bk_kv tb_c_200_3 rfl rfl rfl rfl rfl (ci := 11) rfl rfl (ev_up (Nat.le_of_ble_eq_true rfl) (sn_Mo_later c54)) ?_
            refine bk_b (q := (308, [(0, .ref 135), (1, .int p1)], [.int (32 : Int32), .int (110 : Int32), .int (101 : Int32), .int (104 : Int32), .int (116 : Int32), .int (32 : Int32), .ref 135])) tb_c_200_3 mx_200 7 rfl ?_
            obtain ⟨x56, S55, c57, h⟩ := wd_cx h
            refine bk_ks tb_c_200_3 rfl rfl rfl (by decide) rfl rfl (ev_up (Nat.le_of_ble_eq_true rfl) (sn_Mo_eight c57)) ?_
            obtain ⟨S58, c60, h⟩ := wd_dx h
            refine bk_kv tb_c_200_3 rfl rfl rfl rfl rfl (ci := 11) rfl rfl (ev_up (Nat.le_of_ble_eq_true rfl) (sn_Mo_bytesLater c60)) ?_
            refine bk_b (q := (317, [(0, .ref 135), (1, .int p1)], [.ref 135, .int (2 : Int32), .ref 135])) tb_c_200_3 mx_200 3 rfl ?_
            refine bk_gc tb_c_200_3 rfl rfl (ci := 11) (k := 18) rfl rfl rfl ?_
            refine bk_b (q := (321, [(0, .ref 135), (1, .int p1)], [.int p1, .ref 144, .int (2 : Int32), .ref 135])) tb_c_200_3 mx_200 1 rfl ?_
            by_cases g61 : p1 < 0 ∨ 15010 ≤ p1.toNatClampNeg
            · rw [if_pos g61] at h; cases h
            · rw [if_neg g61] at h
              refine bk_a4 tb_c_200_3 rfl rfl rfl g61 ?_
              obtain ⟨S62, c64, h⟩ := wd_dx h
              refine bk_kv tb_c_200_3 rfl rfl rfl rfl rfl (ci := 11) rfl rfl (ev_up (Nat.le_of_ble_eq_true rfl) (sn_Mo_later c64)) ?_
              refine bk_b (q := (533, [(0, .ref 135), (1, .int p1)], [])) tb_c_200_3 mx_200 1 rfl ?_
              exact go_lv ls_nil (sn_Mo_onExpression_533 h)
      · rw [if_neg g31] at h
        by_cases g65 : (S.1 143 p1.toNatClampNeg) = (3 : Int32)
        · rw [if_pos g65] at h
          refine bk_sw tb_c_200_0 rfl (pc' := 328) (by rw [g65]; rfl) ?_
          refine bk_b (q := (329, [(0, .ref 135), (1, .int p1)], [.ref 135])) tb_c_200_3 mx_200 1 rfl ?_
          refine bk_gc tb_c_200_3 rfl rfl (ci := 11) (k := 91) rfl rfl rfl ?_
          refine bk_b (q := (333, [(0, .ref 135), (1, .int p1)], [.ref 135, .ref 178])) tb_c_200_3 mx_200 1 rfl ?_
          refine bk_gc tb_c_200_3 rfl rfl (ci := 11) (k := 20) rfl rfl rfl ?_
          refine bk_b (q := (337, [(0, .ref 135), (1, .int p1)], [.int p1, .ref 146, .ref 178])) tb_c_200_3 mx_200 1 rfl ?_
          by_cases g66 : p1 < 0 ∨ 15010 ≤ p1.toNatClampNeg
          · rw [if_pos g66] at h; cases h
          · rw [if_neg g66] at h
            refine bk_a4 tb_c_200_3 rfl rfl rfl g66 ?_
            refine bk_b (q := (339, [(0, .ref 135), (1, .int p1)], [.ref 135, .int (S.1 146 p1.toNatClampNeg), .ref 178])) tb_c_200_4 mx_200 1 rfl ?_
            refine bk_gi tb_c_200_4 rfl rfl (ci := 11) (k := 92) rfl rfl rfl ?_
            by_cases g67 : (S.1 146 p1.toNatClampNeg) < 0 ∨ 16 ≤ (S.1 146 p1.toNatClampNeg).toNatClampNeg
            · rw [if_pos g67] at h; cases h
            · rw [if_neg g67] at h
              obtain ⟨S68, eS68, h⟩ := wd_bx h
              refine bk_s4 tb_c_200_4 rfl rfl rfl g67 ?_
              rw [eS68]
              refine bk_b (q := (356, [(0, .ref 135), (1, .int p1)], [.int (120 : Int32), .int (32 : Int32), .int (116 : Int32), .int (101 : Int32), .int (108 : Int32), .int (40 : Int32), .ref 135])) tb_c_200_4 mx_200 7 rfl ?_
              obtain ⟨x70, S69, c71, h⟩ := wd_cx h
              refine bk_ks tb_c_200_4 rfl rfl rfl (by decide) rfl rfl (ev_up (Nat.le_of_ble_eq_true rfl) (sn_Mo_eight c71)) ?_
              obtain ⟨S72, c74, h⟩ := wd_dx h
              refine bk_kv tb_c_200_4 rfl rfl rfl rfl rfl (ci := 11) rfl rfl (ev_up (Nat.le_of_ble_eq_true rfl) (sn_Mo_layAll c74)) ?_
              refine bk_b (q := (364, [(0, .ref 135), (1, .int p1)], [.ref 135, .ref 135])) tb_c_200_4 mx_200 2 rfl ?_
              refine bk_gi tb_c_200_4 rfl rfl (ci := 11) (k := 92) rfl rfl rfl ?_
              obtain ⟨S75, c77, h⟩ := wd_dx h
              refine bk_kv tb_c_200_4 rfl rfl rfl rfl rfl (ci := 11) rfl rfl (ev_up (Nat.le_of_ble_eq_true rfl) (sn_Mo_figures c77)) ?_
              refine bk_b (q := (372, [(0, .ref 135), (1, .int p1)], [.ref 135, .ref 135])) tb_c_200_4 mx_200 2 rfl ?_
              refine bk_gi tb_c_200_4 rfl rfl (ci := 11) (k := 92) rfl rfl rfl ?_
              refine bk_b (q := (377, [(0, .ref 135), (1, .int p1)], [.int ((S75.1 135 92) + (1 : Int32)), .ref 135])) tb_c_200_4 mx_200 2 rfl ?_
              obtain ⟨S78, eS78, h⟩ := wd_bx h
              refine bk_pi tb_c_200_4 rfl rfl (ci := 11) (k := 92) rfl rfl rfl rfl ?_
              rw [eS78]
              refine bk_b (q := (390, [(0, .ref 135), (1, .int p1)], [.int (32 : Int32), .int (61 : Int32), .int (32 : Int32), .int (0 : Int32), .int (0 : Int32), .int (0 : Int32), .ref 135])) tb_c_200_4 mx_200 7 rfl ?_
              obtain ⟨x80, S79, c81, h⟩ := wd_cx h
              refine bk_ks tb_c_200_4 rfl rfl rfl (by decide) rfl rfl (ev_up (Nat.le_of_ble_eq_true rfl) (sn_Mo_eight c81)) ?_
              obtain ⟨S82, c84, h⟩ := wd_dx h
              refine bk_kv tb_c_200_4 rfl rfl rfl rfl rfl (ci := 11) rfl rfl (ev_up (Nat.le_of_ble_eq_true rfl) (sn_Mo_layAll c84)) ?_
              refine bk_b (q := (397, [(0, .ref 135), (1, .int p1)], [.ref 135])) tb_c_200_4 mx_200 1 rfl ?_
              refine bk_c8 tb_c_200_4 rfl rfl (x := (41 : Int64)) rfl ?_
              obtain ⟨S85, c87, h⟩ := wd_dx h
              refine bk_kv tb_c_200_4 rfl rfl rfl rfl rfl (ci := 11) rfl rfl (ev_up (Nat.le_of_ble_eq_true rfl) (sn_Mo_bytesLater c87)) ?_
              refine bk_b (q := (406, [(0, .ref 135), (1, .int p1)], [.ref 135, .int (2 : Int32), .ref 135])) tb_c_200_4 mx_200 3 rfl ?_
              refine bk_gc tb_c_200_4 rfl rfl (ci := 11) (k := 19) rfl rfl rfl ?_
              refine bk_b (q := (410, [(0, .ref 135), (1, .int p1)], [.int p1, .ref 145, .int (2 : Int32), .ref 135])) tb_c_200_4 mx_200 1 rfl ?_
              by_cases g88 : p1 < 0 ∨ 15010 ≤ p1.toNatClampNeg
              · rw [if_pos g88] at h; cases h
              · rw [if_neg g88] at h
                refine bk_a4 tb_c_200_4 rfl rfl rfl g88 ?_
                obtain ⟨S89, c91, h⟩ := wd_dx h
                refine bk_kv tb_c_200_5 rfl rfl rfl rfl rfl (ci := 11) rfl rfl (ev_up (Nat.le_of_ble_eq_true rfl) (sn_Mo_later c91)) ?_
                refine bk_b (q := (425, [(0, .ref 135), (1, .int p1)], [.int (32 : Int32), .int (110 : Int32), .int (105 : Int32), .int (32 : Int32), .int (0 : Int32), .int (0 : Int32), .ref 135])) tb_c_200_5 mx_200 7 rfl ?_
                obtain ⟨x93, S92, c94, h⟩ := wd_cx h
                refine bk_ks tb_c_200_5 rfl rfl rfl (by decide) rfl rfl (ev_up (Nat.le_of_ble_eq_true rfl) (sn_Mo_eight c94)) ?_
                obtain ⟨S95, c97, h⟩ := wd_dx h
                refine bk_kv tb_c_200_5 rfl rfl rfl rfl rfl (ci := 11) rfl rfl (ev_up (Nat.le_of_ble_eq_true rfl) (sn_Mo_bytesLater c97)) ?_
                refine bk_b (q := (434, [(0, .ref 135), (1, .int p1)], [.ref 135, .int (2 : Int32), .ref 135])) tb_c_200_5 mx_200 3 rfl ?_
                refine bk_gc tb_c_200_5 rfl rfl (ci := 11) (k := 18) rfl rfl rfl ?_
                refine bk_b (q := (438, [(0, .ref 135), (1, .int p1)], [.int p1, .ref 144, .int (2 : Int32), .ref 135])) tb_c_200_5 mx_200 1 rfl ?_
                by_cases g98 : p1 < 0 ∨ 15010 ≤ p1.toNatClampNeg
                · rw [if_pos g98] at h; cases h
                · rw [if_neg g98] at h
                  refine bk_a4 tb_c_200_5 rfl rfl rfl g98 ?_
                  obtain ⟨S99, c101, h⟩ := wd_dx h
                  refine bk_kv tb_c_200_5 rfl rfl rfl rfl rfl (ci := 11) rfl rfl (ev_up (Nat.le_of_ble_eq_true rfl) (sn_Mo_later c101)) ?_
                  refine bk_b (q := (533, [(0, .ref 135), (1, .int p1)], [])) tb_c_200_5 mx_200 1 rfl ?_
                  exact go_lv ls_nil (sn_Mo_onExpression_533 h)
        · rw [if_neg g65] at h
          by_cases g102 : (S.1 143 p1.toNatClampNeg) = (4 : Int32)
          · rw [if_pos g102] at h
            refine bk_sw tb_c_200_0 rfl (pc' := 445) (by rw [g102]; rfl) ?_
            refine bk_b (q := (448, [(0, .ref 135), (1, .int p1)], [.int (118 : Int32), .ref 135])) tb_c_200_5 mx_200 2 rfl ?_
            obtain ⟨S103, c105, h⟩ := wd_dx h
            refine bk_kv tb_c_200_5 rfl rfl rfl rfl rfl (ci := 11) rfl rfl (ev_up (Nat.le_of_ble_eq_true rfl) (sn_Mo_lay c105)) ?_
            refine bk_b (q := (453, [(0, .ref 135), (1, .int p1)], [.ref 135, .ref 135])) tb_c_200_5 mx_200 2 rfl ?_
            refine bk_gc tb_c_200_5 rfl rfl (ci := 11) (k := 20) rfl rfl rfl ?_
            refine bk_b (q := (457, [(0, .ref 135), (1, .int p1)], [.int p1, .ref 146, .ref 135])) tb_c_200_5 mx_200 1 rfl ?_
            by_cases g106 : p1 < 0 ∨ 15010 ≤ p1.toNatClampNeg
            · rw [if_pos g106] at h; cases h
            · rw [if_neg g106] at h
              refine bk_a4 tb_c_200_5 rfl rfl rfl g106 ?_
              refine bk_b (q := (461, [(0, .ref 135), (1, .int p1)], [.int ((S103.1 146 p1.toNatClampNeg) - (S103.1 146 p1.toNatClampNeg) / (80 : Int32) * (80 : Int32)), .ref 135])) tb_c_200_5 mx_200 2 rfl ?_
              obtain ⟨S107, c109, h⟩ := wd_dx h
              refine bk_kv tb_c_200_5 rfl rfl rfl rfl rfl (ci := 11) rfl rfl (ev_up (Nat.le_of_ble_eq_true rfl) (sn_Mo_figures c109)) ?_
              refine bk_b (q := (467, [(0, .ref 135), (1, .int p1)], [.int (40 : Int32), .ref 135])) tb_c_200_5 mx_200 2 rfl ?_
              obtain ⟨S110, c112, h⟩ := wd_dx h
              refine bk_kv tb_c_200_5 rfl rfl rfl rfl rfl (ci := 11) rfl rfl (ev_up (Nat.le_of_ble_eq_true rfl) (sn_Mo_lay c112)) ?_
              refine bk_b (q := (471, [(0, .ref 135), (1, .int p1)], [.ref 135])) tb_c_200_5 mx_200 1 rfl ?_
              refine bk_c8 tb_c_200_5 rfl rfl (x := (41 : Int64)) rfl ?_
              obtain ⟨S113, c115, h⟩ := wd_dx h
              refine bk_kv tb_c_200_5 rfl rfl rfl rfl rfl (ci := 11) rfl rfl (ev_up (Nat.le_of_ble_eq_true rfl) (sn_Mo_bytesLater c115)) ?_
              refine bk_b (q := (478, [(0, .ref 135), (1, .int p1)], [.ref 135])) tb_c_200_5 mx_200 1 rfl ?_
              refine bk_gc tb_c_200_5 rfl rfl (ci := 11) (k := 19) rfl rfl rfl ?_
              refine bk_b (q := (482, [(0, .ref 135), (1, .int p1)], [.int p1, .ref 145])) tb_c_200_5 mx_200 1 rfl ?_
              by_cases g116 : p1 < 0 ∨ 15010 ≤ p1.toNatClampNeg
              · rw [if_pos g116] at h; cases h
              · rw [if_neg g116] at h
                refine bk_a4 tb_c_200_5 rfl rfl rfl g116 ?_
                refine bk_b (q := (484, [(0, .ref 135), (1, .int p1)], [.int (1 : Int32), .int (S113.1 145 p1.toNatClampNeg)])) tb_c_200_5 mx_200 1 rfl ?_
                refine bk_b (q := (486, [(3, .int ((S113.1 145 p1.toNatClampNeg) - (1 : Int32))), (0, .ref 135), (1, .int p1)], [])) tb_c_200_6 mx_200 2 rfl ?_
                exact go_lv (ls_sc rfl rfl (ls_sc rfl rfl (ls_sc rfl rfl ls_nil))) (sn_Mo_onExpression_486 wd_F h)
          · rw [if_neg g102] at h
            by_cases g130 : (S.1 143 p1.toNatClampNeg) = (5 : Int32)
            · rw [if_pos g130] at h
              refine bk_sw tb_c_200_0 rfl (pc' := 48) (by rw [g130]; rfl) ?_
              refine bk_b (q := (50, [(0, .ref 135), (1, .int p1)], [.ref 135, .ref 135])) tb_c_200_0 mx_200 2 rfl ?_
              refine bk_gc tb_c_200_0 rfl rfl (ci := 11) (k := 18) rfl rfl rfl ?_
              refine bk_b (q := (54, [(0, .ref 135), (1, .int p1)], [.int p1, .ref 144, .ref 135])) tb_c_200_0 mx_200 1 rfl ?_
              by_cases g131 : p1 < 0 ∨ 15010 ≤ p1.toNatClampNeg
              · rw [if_pos g131] at h; cases h
              · rw [if_neg g131] at h
                refine bk_a4 tb_c_200_0 rfl rfl rfl g131 ?_
                obtain ⟨S132, c134, h⟩ := wd_dx h
                refine bk_kv tb_c_200_0 rfl rfl rfl rfl rfl (ci := 11) rfl rfl (ev_up (Nat.le_of_ble_eq_true rfl) (sn_Mo_layNumber c134)) ?_
                refine bk_b (q := (533, [(0, .ref 135), (1, .int p1)], [])) tb_c_200_0 mx_200 1 rfl ?_
                exact go_lv ls_nil (sn_Mo_onExpression_533 h)
            · rw [if_neg g130] at h
              by_cases g135 : (S.1 143 p1.toNatClampNeg) = (6 : Int32)
              · rw [if_pos g135] at h
                refine bk_sw tb_c_200_0 rfl (pc' := 445) (by rw [g135]; rfl) ?_
                refine bk_b (q := (448, [(0, .ref 135), (1, .int p1)], [.int (118 : Int32), .ref 135])) tb_c_200_5 mx_200 2 rfl ?_
                obtain ⟨S136, c138, h⟩ := wd_dx h
                refine bk_kv tb_c_200_5 rfl rfl rfl rfl rfl (ci := 11) rfl rfl (ev_up (Nat.le_of_ble_eq_true rfl) (sn_Mo_lay c138)) ?_
                refine bk_b (q := (453, [(0, .ref 135), (1, .int p1)], [.ref 135, .ref 135])) tb_c_200_5 mx_200 2 rfl ?_
                refine bk_gc tb_c_200_5 rfl rfl (ci := 11) (k := 20) rfl rfl rfl ?_
                refine bk_b (q := (457, [(0, .ref 135), (1, .int p1)], [.int p1, .ref 146, .ref 135])) tb_c_200_5 mx_200 1 rfl ?_
                by_cases g139 : p1 < 0 ∨ 15010 ≤ p1.toNatClampNeg
                · rw [if_pos g139] at h; cases h
                · rw [if_neg g139] at h
                  refine bk_a4 tb_c_200_5 rfl rfl rfl g139 ?_
                  refine bk_b (q := (461, [(0, .ref 135), (1, .int p1)], [.int ((S136.1 146 p1.toNatClampNeg) - (S136.1 146 p1.toNatClampNeg) / (80 : Int32) * (80 : Int32)), .ref 135])) tb_c_200_5 mx_200 2 rfl ?_
                  obtain ⟨S140, c142, h⟩ := wd_dx h
                  refine bk_kv tb_c_200_5 rfl rfl rfl rfl rfl (ci := 11) rfl rfl (ev_up (Nat.le_of_ble_eq_true rfl) (sn_Mo_figures c142)) ?_
                  refine bk_b (q := (467, [(0, .ref 135), (1, .int p1)], [.int (40 : Int32), .ref 135])) tb_c_200_5 mx_200 2 rfl ?_
                  obtain ⟨S143, c145, h⟩ := wd_dx h
                  refine bk_kv tb_c_200_5 rfl rfl rfl rfl rfl (ci := 11) rfl rfl (ev_up (Nat.le_of_ble_eq_true rfl) (sn_Mo_lay c145)) ?_
                  refine bk_b (q := (471, [(0, .ref 135), (1, .int p1)], [.ref 135])) tb_c_200_5 mx_200 1 rfl ?_
                  refine bk_c8 tb_c_200_5 rfl rfl (x := (41 : Int64)) rfl ?_
                  obtain ⟨S146, c148, h⟩ := wd_dx h
                  refine bk_kv tb_c_200_5 rfl rfl rfl rfl rfl (ci := 11) rfl rfl (ev_up (Nat.le_of_ble_eq_true rfl) (sn_Mo_bytesLater c148)) ?_
                  refine bk_b (q := (478, [(0, .ref 135), (1, .int p1)], [.ref 135])) tb_c_200_5 mx_200 1 rfl ?_
                  refine bk_gc tb_c_200_5 rfl rfl (ci := 11) (k := 19) rfl rfl rfl ?_
                  refine bk_b (q := (482, [(0, .ref 135), (1, .int p1)], [.int p1, .ref 145])) tb_c_200_5 mx_200 1 rfl ?_
                  by_cases g149 : p1 < 0 ∨ 15010 ≤ p1.toNatClampNeg
                  · rw [if_pos g149] at h; cases h
                  · rw [if_neg g149] at h
                    refine bk_a4 tb_c_200_5 rfl rfl rfl g149 ?_
                    refine bk_b (q := (484, [(0, .ref 135), (1, .int p1)], [.int (1 : Int32), .int (S146.1 145 p1.toNatClampNeg)])) tb_c_200_5 mx_200 1 rfl ?_
                    refine bk_b (q := (486, [(3, .int ((S146.1 145 p1.toNatClampNeg) - (1 : Int32))), (0, .ref 135), (1, .int p1)], [])) tb_c_200_6 mx_200 2 rfl ?_
                    exact go_lv (ls_sc rfl rfl (ls_sc rfl rfl (ls_sc rfl rfl ls_nil))) (sn_Mo_onExpression_486 wd_F h)
              · rw [if_neg g135] at h
                by_cases g150 : (S.1 143 p1.toNatClampNeg) = (7 : Int32)
                · rw [if_pos g150] at h
                  refine bk_sw tb_c_200_0 rfl (pc' := 61) (by rw [g150]; rfl) ?_
                  refine bk_b (q := (62, [(0, .ref 135), (1, .int p1)], [.ref 135])) tb_c_200_0 mx_200 1 rfl ?_
                  refine bk_gc tb_c_200_0 rfl rfl (ci := 11) (k := 18) rfl rfl rfl ?_
                  refine bk_b (q := (66, [(0, .ref 135), (1, .int p1)], [.int p1, .ref 144])) tb_c_200_0 mx_200 1 rfl ?_
                  by_cases g151 : p1 < 0 ∨ 15010 ≤ p1.toNatClampNeg
                  · rw [if_pos g151] at h; cases h
                  · rw [if_neg g151] at h
                    refine bk_a4 tb_c_200_0 rfl rfl rfl g151 ?_
                    refine bk_b (q := (68, [(0, .ref 135), (1, .int p1)], [.ref 135, .int (S.1 144 p1.toNatClampNeg)])) tb_c_200_0 mx_200 1 rfl ?_
                    refine bk_gi tb_c_200_0 rfl rfl (ci := 11) (k := 93) rfl rfl rfl ?_
                    by_cases g152 : (S.1 144 p1.toNatClampNeg) < (S.1 135 93)
                    · rw [if_pos g152] at h
                      refine bk_jf tb_c_200_0 rfl (pc' := 74) rfl (t := 90) rfl (cm_ge_f g152) ?_
                      refine bk_b (q := (78, [(0, .ref 135), (1, .int p1)], [.ref 135, .int (97 : Int32), .ref 135])) tb_c_200_0 mx_200 3 rfl ?_
                      refine bk_gc tb_c_200_0 rfl rfl (ci := 11) (k := 18) rfl rfl rfl ?_
                      refine bk_b (q := (82, [(0, .ref 135), (1, .int p1)], [.int p1, .ref 144, .int (97 : Int32), .ref 135])) tb_c_200_0 mx_200 1 rfl ?_
                      by_cases g161 : p1 < 0 ∨ 15010 ≤ p1.toNatClampNeg
                      · rw [if_pos g161] at h; cases h
                      · rw [if_neg g161] at h
                        refine bk_a4 tb_c_200_0 rfl rfl rfl g161 ?_
                        refine bk_b (q := (84, [(0, .ref 135), (1, .int p1)], [.int ((97 : Int32) + (S.1 144 p1.toNatClampNeg)), .ref 135])) tb_c_200_0 mx_200 1 rfl ?_
                        obtain ⟨S162, c164, h⟩ := wd_dx h
                        refine bk_kv tb_c_200_0 rfl rfl rfl rfl rfl (ci := 11) rfl rfl (ev_up (Nat.le_of_ble_eq_true rfl) (sn_Mo_lay c164)) ?_
                        refine bk_b (q := (533, [(0, .ref 135), (1, .int p1)], [])) tb_c_200_0 mx_200 1 rfl ?_
                        exact go_lv ls_nil (sn_Mo_onExpression_533 h)
                    · rw [if_neg g152] at h
                      refine bk_jt tb_c_200_0 rfl (pc' := 90) rfl (cm_ge_t g152) ?_
                      refine bk_b (q := (93, [(0, .ref 135), (1, .int p1)], [.int (120 : Int32), .ref 135])) tb_c_200_0 mx_200 2 rfl ?_
                      obtain ⟨S153, c155, h⟩ := wd_dx h
                      refine bk_kv tb_c_200_0 rfl rfl rfl rfl rfl (ci := 11) rfl rfl (ev_up (Nat.le_of_ble_eq_true rfl) (sn_Mo_lay c155)) ?_
                      refine bk_b (q := (98, [(0, .ref 135), (1, .int p1)], [.ref 135, .ref 135])) tb_c_200_0 mx_200 2 rfl ?_
                      refine bk_gc tb_c_200_0 rfl rfl (ci := 11) (k := 91) rfl rfl rfl ?_
                      refine bk_b (q := (102, [(0, .ref 135), (1, .int p1)], [.ref 135, .ref 178, .ref 135])) tb_c_200_0 mx_200 1 rfl ?_
                      refine bk_gc tb_c_200_0 rfl rfl (ci := 11) (k := 18) rfl rfl rfl ?_
                      refine bk_b (q := (106, [(0, .ref 135), (1, .int p1)], [.int p1, .ref 144, .ref 178, .ref 135])) tb_c_200_0 mx_200 1 rfl ?_
                      by_cases g156 : p1 < 0 ∨ 15010 ≤ p1.toNatClampNeg
                      · rw [if_pos g156] at h; cases h
                      · rw [if_neg g156] at h
                        refine bk_a4 tb_c_200_0 rfl rfl rfl g156 ?_
                        by_cases g157 : (S153.1 144 p1.toNatClampNeg) < 0 ∨ 16 ≤ (S153.1 144 p1.toNatClampNeg).toNatClampNeg
                        · rw [if_pos g157] at h; cases h
                        · rw [if_neg g157] at h
                          refine bk_a4 tb_c_200_0 rfl rfl rfl g157 ?_
                          obtain ⟨S158, c160, h⟩ := wd_dx h
                          refine bk_kv tb_c_200_0 rfl rfl rfl rfl rfl (ci := 11) rfl rfl (ev_up (Nat.le_of_ble_eq_true rfl) (sn_Mo_figures c160)) ?_
                          refine bk_b (q := (533, [(0, .ref 135), (1, .int p1)], [])) tb_c_200_1 mx_200 1 rfl ?_
                          exact go_lv ls_nil (sn_Mo_onExpression_533 h)
                · rw [if_neg g150] at h
                  refine bk_sw tb_c_200_0 rfl (pc' := 445) (sw_t (t := 445) (fun i h1 h2 => ?_) rfl) ?_
                  · have hi : i = 1 ∨ i = 2 ∨ i = 3 ∨ i = 4 ∨ i = 5 ∨ i = 6 ∨ i = 7 := by omega
                    rcases hi with rfl | rfl | rfl | rfl | rfl | rfl | rfl
                    · exact g2
                    · exact g31
                    · exact g65
                    · exact g102
                    · exact g130
                    · exact g135
                    · exact g150
                  · refine bk_b (q := (448, [(0, .ref 135), (1, .int p1)], [.int (118 : Int32), .ref 135])) tb_c_200_5 mx_200 2 rfl ?_
                    obtain ⟨S165, c167, h⟩ := wd_dx h
                    refine bk_kv tb_c_200_5 rfl rfl rfl rfl rfl (ci := 11) rfl rfl (ev_up (Nat.le_of_ble_eq_true rfl) (sn_Mo_lay c167)) ?_
                    refine bk_b (q := (453, [(0, .ref 135), (1, .int p1)], [.ref 135, .ref 135])) tb_c_200_5 mx_200 2 rfl ?_
                    refine bk_gc tb_c_200_5 rfl rfl (ci := 11) (k := 20) rfl rfl rfl ?_
                    refine bk_b (q := (457, [(0, .ref 135), (1, .int p1)], [.int p1, .ref 146, .ref 135])) tb_c_200_5 mx_200 1 rfl ?_
                    by_cases g168 : p1 < 0 ∨ 15010 ≤ p1.toNatClampNeg
                    · rw [if_pos g168] at h; cases h
                    · rw [if_neg g168] at h
                      refine bk_a4 tb_c_200_5 rfl rfl rfl g168 ?_
                      refine bk_b (q := (461, [(0, .ref 135), (1, .int p1)], [.int ((S165.1 146 p1.toNatClampNeg) - (S165.1 146 p1.toNatClampNeg) / (80 : Int32) * (80 : Int32)), .ref 135])) tb_c_200_5 mx_200 2 rfl ?_
                      obtain ⟨S169, c171, h⟩ := wd_dx h
                      refine bk_kv tb_c_200_5 rfl rfl rfl rfl rfl (ci := 11) rfl rfl (ev_up (Nat.le_of_ble_eq_true rfl) (sn_Mo_figures c171)) ?_
                      refine bk_b (q := (467, [(0, .ref 135), (1, .int p1)], [.int (40 : Int32), .ref 135])) tb_c_200_5 mx_200 2 rfl ?_
                      obtain ⟨S172, c174, h⟩ := wd_dx h
                      refine bk_kv tb_c_200_5 rfl rfl rfl rfl rfl (ci := 11) rfl rfl (ev_up (Nat.le_of_ble_eq_true rfl) (sn_Mo_lay c174)) ?_
                      refine bk_b (q := (471, [(0, .ref 135), (1, .int p1)], [.ref 135])) tb_c_200_5 mx_200 1 rfl ?_
                      refine bk_c8 tb_c_200_5 rfl rfl (x := (41 : Int64)) rfl ?_
                      obtain ⟨S175, c177, h⟩ := wd_dx h
                      refine bk_kv tb_c_200_5 rfl rfl rfl rfl rfl (ci := 11) rfl rfl (ev_up (Nat.le_of_ble_eq_true rfl) (sn_Mo_bytesLater c177)) ?_
                      refine bk_b (q := (478, [(0, .ref 135), (1, .int p1)], [.ref 135])) tb_c_200_5 mx_200 1 rfl ?_
                      refine bk_gc tb_c_200_5 rfl rfl (ci := 11) (k := 19) rfl rfl rfl ?_
                      refine bk_b (q := (482, [(0, .ref 135), (1, .int p1)], [.int p1, .ref 145])) tb_c_200_5 mx_200 1 rfl ?_
                      by_cases g178 : p1 < 0 ∨ 15010 ≤ p1.toNatClampNeg
                      · rw [if_pos g178] at h; cases h
                      · rw [if_neg g178] at h
                        refine bk_a4 tb_c_200_5 rfl rfl rfl g178 ?_
                        refine bk_b (q := (484, [(0, .ref 135), (1, .int p1)], [.int (1 : Int32), .int (S175.1 145 p1.toNatClampNeg)])) tb_c_200_5 mx_200 1 rfl ?_
                        refine bk_b (q := (486, [(3, .int ((S175.1 145 p1.toNatClampNeg) - (1 : Int32))), (0, .ref 135), (1, .int p1)], [])) tb_c_200_6 mx_200 2 rfl ?_
                        exact go_lv (ls_sc rfl rfl (ls_sc rfl rfl (ls_sc rfl rfl ls_nil))) (sn_Mo_onExpression_486 wd_F h)
