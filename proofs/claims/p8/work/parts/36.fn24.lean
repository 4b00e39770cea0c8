/-! Methods as functions: printed by wip/whole/gen_fn.py. -/
theorem mx_195 : mi_mx tb_P 195 = 4 := rfl
noncomputable def fn_Mo_print_264 : Nat → Int32 → wd_S → Option (Int32 × wd_S)
  | 0, _, _ => none
  | n + 1, l1, S =>
    (if l1 < (S.1 135 88) then
      (if l1 < 0 ∨ 40000 ≤ l1.toNatClampNeg then none else
      (if l1 < 0 ∨ 40000 ≤ l1.toNatClampNeg then none else
      (wd_b (wd_i S 175 l1.toNatClampNeg (S.1 176 l1.toNatClampNeg)) fun S11 =>
      fn_Mo_print_264 n (l1 + (1 : Int32)) S11)))
    else
      (wd_b (wd_i S 135 89 (S.1 135 88)) fun S8 =>
      some (S8.1 135 89, S8)))
set_option maxRecDepth 100000 in
theorem sn_Mo_print_264 {L : Nat} {xs : Nat → Int32} : ∀ (n : Nat) {l1 : Int32} {S : wd_S} {x : Int32} {S' : wd_S}, fn_Mo_print_264 n l1 S = some (x, S') → go_r tb_P L xs 4 195 264 [(0, .ref 135), (1, .int l1)] [] (wd_k S) (.inl (some (.int x)), wd_k S') := by
  intro n
  induction n with
  | zero => intro l1 S x S'  h; cases h
  | succ n ih =>
    intro l1 S x S'  h
    rw [fn_Mo_print_264] at h
    refine bk_b (q := (266, [(0, .ref 135), (1, .int l1)], [.ref 135, .int l1])) tb_c_195_3 mx_195 2 rfl ?_
    refine bk_gi tb_c_195_3 rfl rfl (ci := 11) (k := 88) rfl rfl rfl ?_
    by_cases g7 : l1 < (S.1 135 88)
    · rw [if_pos g7] at h
      refine bk_jf tb_c_195_3 rfl (pc' := 272) rfl (t := 290) rfl (cm_ge_f g7) ?_
      refine bk_b (q := (273, [(0, .ref 135), (1, .int l1)], [.ref 135])) tb_c_195_3 mx_195 1 rfl ?_
      refine bk_gc tb_c_195_3 rfl rfl (ci := 11) (k := 86) rfl rfl rfl ?_
      refine bk_b (q := (278, [(0, .ref 135), (1, .int l1)], [.ref 135, .int l1, .ref 175])) tb_c_195_3 mx_195 2 rfl ?_
      refine bk_gc tb_c_195_3 rfl rfl (ci := 11) (k := 87) rfl rfl rfl ?_
      refine bk_b (q := (282, [(0, .ref 135), (1, .int l1)], [.int l1, .ref 176, .int l1, .ref 175])) tb_c_195_3 mx_195 1 rfl ?_
      by_cases g9 : l1 < 0 ∨ 40000 ≤ l1.toNatClampNeg
      · rw [if_pos g9] at h; cases h
      · rw [if_neg g9] at h
        refine bk_a4 tb_c_195_3 rfl rfl rfl g9 ?_
        by_cases g10 : l1 < 0 ∨ 40000 ≤ l1.toNatClampNeg
        · rw [if_pos g10] at h; cases h
        · rw [if_neg g10] at h
          obtain ⟨S11, eS11, h⟩ := wd_bx h
          refine bk_s4 tb_c_195_3 rfl rfl rfl g10 ?_
          rw [eS11]
          refine bk_b (q := (264, [(1, .int (l1 + (1 : Int32))), (0, .ref 135)], [])) tb_c_195_3 mx_195 2 rfl ?_
          exact go_lv (ls_sc rfl rfl (ls_sc rfl rfl ls_nil)) (ih h)
    · rw [if_neg g7] at h
      refine bk_jt tb_c_195_3 rfl (pc' := 290) rfl (cm_ge_t g7) ?_
      refine bk_b (q := (292, [(0, .ref 135), (1, .int l1)], [.ref 135, .ref 135])) tb_c_195_3 mx_195 2 rfl ?_
      refine bk_gi tb_c_195_4 rfl rfl (ci := 11) (k := 88) rfl rfl rfl ?_
      obtain ⟨S8, eS8, h⟩ := wd_bx h
      refine bk_pi tb_c_195_4 rfl rfl (ci := 11) (k := 89) rfl rfl rfl rfl ?_
      rw [eS8]
      refine bk_b (q := (299, [(0, .ref 135), (1, .int l1)], [.ref 135])) tb_c_195_4 mx_195 1 rfl ?_
      refine bk_gi tb_c_195_4 rfl rfl (ci := 11) (k := 89) rfl rfl rfl ?_
      cases h
      exact bk_t tb_c_195_4 rfl rfl
noncomputable def fn_Mo_print_246 (S : wd_S) : Option (Int32 × wd_S) :=
  (if (40000 : Int32) < (S.1 135 88) then
    (wd_b (wd_i S 135 0 (2 : Int32)) fun S12 =>
    some ((0 : Int32), S12))
  else
    fn_Mo_print_264 wd_F (0 : Int32) S)
set_option maxRecDepth 100000 in
theorem sn_Mo_print_246 {L : Nat} {xs : Nat → Int32} {S : wd_S} {x : Int32} {S' : wd_S} (h : fn_Mo_print_246  S = some (x, S')) : go_r tb_P L xs 4 195 246 [(0, .ref 135)] [] (wd_k S) (.inl (some (.int x)), wd_k S') := by
  unfold fn_Mo_print_246 at h
  refine bk_b (q := (247, [(0, .ref 135)], [.ref 135])) tb_c_195_3 mx_195 1 rfl ?_
  refine bk_gi tb_c_195_3 rfl rfl (ci := 11) (k := 88) rfl rfl rfl ?_
  refine bk_c4 tb_c_195_3 rfl rfl (x := (40000 : Int32)) rfl ?_
  by_cases g6 : (40000 : Int32) < (S.1 135 88)
  · rw [if_pos g6] at h
    refine bk_jf tb_c_195_3 rfl (pc' := 255) rfl (t := 262) rfl (cm_le_f g6) ?_
    refine bk_b (q := (257, [(0, .ref 135)], [.int (2 : Int32), .ref 135])) tb_c_195_3 mx_195 2 rfl ?_
    obtain ⟨S12, eS12, h⟩ := wd_bx h
    refine bk_pi tb_c_195_3 rfl rfl (ci := 11) (k := 0) rfl rfl rfl rfl ?_
    rw [eS12]
    refine bk_b (q := (261, [(0, .ref 135)], [.int (0 : Int32)])) tb_c_195_3 mx_195 1 rfl ?_
    cases h
    exact bk_t tb_c_195_3 rfl rfl
  · rw [if_neg g6] at h
    refine bk_jt tb_c_195_3 rfl (pc' := 262) rfl (cm_le_t g6) ?_
    refine bk_b (q := (264, [(1, .int (0 : Int32)), (0, .ref 135)], [])) tb_c_195_3 mx_195 2 rfl ?_
    exact go_lv (ls_sc rfl rfl (ls_sc rfl rfl ls_nil)) (sn_Mo_print_264 wd_F h)
noncomputable def fn_Mo_print_166 (kk32 : Int32 → wd_S → Option (Int32 × wd_S)) : Nat → Int32 → wd_S → Option (Int32 × wd_S)
  | 0, _, _ => none
  | n + 1, l1, S =>
    (if 0 < (S.1 135 76) then
      (wd_b (wd_i S 135 76 ((S.1 135 76) - (1 : Int32))) fun S47 =>
      (if (S47.1 135 76) < 0 ∨ 4000 ≤ (S47.1 135 76).toNatClampNeg then none else
      (if (S47.1 165 (S47.1 135 76).toNatClampNeg) = (1 : Int32) then
        (if (S47.1 135 76) < 0 ∨ 4000 ≤ (S47.1 135 76).toNatClampNeg then none else
        (wd_d (fn_Mo_layAll (S47.2.1 177 (S47.1 135 76).toNatClampNeg) S47) fun S55 =>
        fn_Mo_print_166 kk32 n l1 S55))
      else
        (if (S47.1 135 76) < 0 ∨ 4000 ≤ (S47.1 135 76).toNatClampNeg then none else
        (wd_d (fn_Mo_onExpression (S47.1 166 (S47.1 135 76).toNatClampNeg) S47) fun S51 =>
        fn_Mo_print_166 kk32 n l1 S51)))))
    else
      (wd_d (fn_Mo_lay (59 : Int32) S) fun S41 =>
      (wd_d (fn_Mo_lay (10 : Int32) S41) fun S44 =>
      kk32 (l1 + (1 : Int32)) S44)))
set_option maxRecDepth 100000 in
theorem sn_Mo_print_166 {L : Nat} {xs : Nat → Int32} {kk32 : Int32 → wd_S → Option (Int32 × wd_S)} (hk32 : ∀ {l1 : Int32} {S : wd_S} {x : Int32} {S' : wd_S}, kk32 l1 S = some (x, S') → go_r tb_P L xs 4 195 32 [(0, .ref 135), (1, .int l1)] [] (wd_k S) (.inl (some (.int x)), wd_k S')) : ∀ (n : Nat) {l1 : Int32} {S : wd_S} {x : Int32} {S' : wd_S}, fn_Mo_print_166 kk32 n l1 S = some (x, S') → go_r tb_P L xs 4 195 166 [(0, .ref 135), (1, .int l1)] [] (wd_k S) (.inl (some (.int x)), wd_k S') := by
  intro n
  induction n with
  | zero => intro l1 S x S'  h; cases h
  | succ n ih =>
    intro l1 S x S'  h
    rw [fn_Mo_print_166] at h
    refine bk_b (q := (167, [(0, .ref 135), (1, .int l1)], [.ref 135])) tb_c_195_2 mx_195 1 rfl ?_
    refine bk_gi tb_c_195_2 rfl rfl (ci := 11) (k := 76) rfl rfl rfl ?_
    by_cases g40 : 0 < (S.1 135 76)
    · rw [if_pos g40] at h
      refine bk_zf tb_c_195_2 rfl (pc' := 173) rfl (t := 228) rfl (cm_le_f g40) ?_
      refine bk_b (q := (175, [(0, .ref 135), (1, .int l1)], [.ref 135, .ref 135])) tb_c_195_2 mx_195 2 rfl ?_
      refine bk_gi tb_c_195_2 rfl rfl (ci := 11) (k := 76) rfl rfl rfl ?_
      refine bk_b (q := (180, [(0, .ref 135), (1, .int l1)], [.int ((S.1 135 76) - (1 : Int32)), .ref 135])) tb_c_195_2 mx_195 2 rfl ?_
      obtain ⟨S47, eS47, h⟩ := wd_bx h
      refine bk_pi tb_c_195_2 rfl rfl (ci := 11) (k := 76) rfl rfl rfl rfl ?_
      rw [eS47]
      refine bk_b (q := (184, [(0, .ref 135), (1, .int l1)], [.ref 135])) tb_c_195_2 mx_195 1 rfl ?_
      refine bk_gc tb_c_195_2 rfl rfl (ci := 11) (k := 74) rfl rfl rfl ?_
      refine bk_b (q := (188, [(0, .ref 135), (1, .int l1)], [.ref 135, .ref 165])) tb_c_195_2 mx_195 1 rfl ?_
      refine bk_gi tb_c_195_2 rfl rfl (ci := 11) (k := 76) rfl rfl rfl ?_
      by_cases g48 : (S47.1 135 76) < 0 ∨ 4000 ≤ (S47.1 135 76).toNatClampNeg
      · rw [if_pos g48] at h; cases h
      · rw [if_neg g48] at h
        refine bk_a4 tb_c_195_2 rfl rfl rfl g48 ?_
        refine bk_b (q := (193, [(0, .ref 135), (1, .int l1)], [.int (1 : Int32), .int (S47.1 165 (S47.1 135 76).toNatClampNeg)])) tb_c_195_2 mx_195 1 rfl ?_
        by_cases g49 : (S47.1 165 (S47.1 135 76).toNatClampNeg) = (1 : Int32)
        · rw [if_pos g49] at h
          refine bk_jf tb_c_195_2 rfl (pc' := 196) rfl (t := 212) rfl (cm_ne_f g49) ?_
          refine bk_b (q := (198, [(0, .ref 135), (1, .int l1)], [.ref 135, .ref 135])) tb_c_195_2 mx_195 2 rfl ?_
          refine bk_gc tb_c_195_2 rfl rfl (ci := 11) (k := 90) rfl rfl rfl ?_
          refine bk_b (q := (202, [(0, .ref 135), (1, .int l1)], [.ref 135, .ref 177, .ref 135])) tb_c_195_2 mx_195 1 rfl ?_
          refine bk_gi tb_c_195_2 rfl rfl (ci := 11) (k := 76) rfl rfl rfl ?_
          by_cases g54 : (S47.1 135 76) < 0 ∨ 4000 ≤ (S47.1 135 76).toNatClampNeg
          · rw [if_pos g54] at h; cases h
          · rw [if_neg g54] at h
            refine bk_a8 tb_c_195_2 rfl rfl rfl g54 ?_
            obtain ⟨S55, c57, h⟩ := wd_dx h
            refine bk_kv tb_c_195_2 rfl rfl rfl rfl rfl (ci := 11) rfl rfl (ev_up (Nat.le_of_ble_eq_true rfl) (sn_Mo_layAll c57)) ?_
            refine bk_b (q := (166, [(0, .ref 135), (1, .int l1)], [])) tb_c_195_2 mx_195 1 rfl ?_
            exact go_lv (ls_sc rfl rfl (ls_sc rfl rfl ls_nil)) (ih h)
        · rw [if_neg g49] at h
          refine bk_jt tb_c_195_2 rfl (pc' := 212) rfl (cm_ne_t g49) ?_
          refine bk_b (q := (214, [(0, .ref 135), (1, .int l1)], [.ref 135, .ref 135])) tb_c_195_2 mx_195 2 rfl ?_
          refine bk_gc tb_c_195_2 rfl rfl (ci := 11) (k := 75) rfl rfl rfl ?_
          refine bk_b (q := (218, [(0, .ref 135), (1, .int l1)], [.ref 135, .ref 166, .ref 135])) tb_c_195_3 mx_195 1 rfl ?_
          refine bk_gi tb_c_195_3 rfl rfl (ci := 11) (k := 76) rfl rfl rfl ?_
          by_cases g50 : (S47.1 135 76) < 0 ∨ 4000 ≤ (S47.1 135 76).toNatClampNeg
          · rw [if_pos g50] at h; cases h
          · rw [if_neg g50] at h
            refine bk_a4 tb_c_195_3 rfl rfl rfl g50 ?_
            obtain ⟨S51, c53, h⟩ := wd_dx h
            refine bk_kv tb_c_195_3 rfl rfl rfl rfl rfl (ci := 11) rfl rfl (ev_up (Nat.le_of_ble_eq_true rfl) (sn_Mo_onExpression c53)) ?_
            refine bk_b (q := (166, [(0, .ref 135), (1, .int l1)], [])) tb_c_195_3 mx_195 1 rfl ?_
            exact go_lv (ls_sc rfl rfl (ls_sc rfl rfl ls_nil)) (ih h)
    · rw [if_neg g40] at h
      refine bk_zt tb_c_195_2 rfl (pc' := 228) rfl (cm_le_t g40) ?_
      refine bk_b (q := (231, [(0, .ref 135), (1, .int l1)], [.int (59 : Int32), .ref 135])) tb_c_195_3 mx_195 2 rfl ?_
      obtain ⟨S41, c43, h⟩ := wd_dx h
      refine bk_kv tb_c_195_3 rfl rfl rfl rfl rfl (ci := 11) rfl rfl (ev_up (Nat.le_of_ble_eq_true rfl) (sn_Mo_lay c43)) ?_
      refine bk_b (q := (237, [(0, .ref 135), (1, .int l1)], [.int (10 : Int32), .ref 135])) tb_c_195_3 mx_195 2 rfl ?_
      obtain ⟨S44, c46, h⟩ := wd_dx h
      refine bk_kv tb_c_195_3 rfl rfl rfl rfl rfl (ci := 11) rfl rfl (ev_up (Nat.le_of_ble_eq_true rfl) (sn_Mo_lay c46)) ?_
      refine bk_b (q := (32, [(1, .int (l1 + (1 : Int32))), (0, .ref 135)], [])) tb_c_195_3 mx_195 2 rfl ?_
      exact go_lv (ls_sc rfl rfl (ls_sc rfl rfl ls_nil)) (hk32 h)
noncomputable def fn_Mo_print_119 (kk32 : Int32 → wd_S → Option (Int32 × wd_S)) (kk92 : Int32 → Int32 → Int32 → wd_S → Option (Int32 × wd_S)) (l1 : Int32) (l2 : Int32) (l3 : Int32) (S : wd_S) : Option (Int32 × wd_S) :=
  (wd_d (fn_Mo_lay ((97 : Int32) + l3) S) fun S59 =>
  kk92 l1 l2 (l3 + (1 : Int32)) S59)
set_option maxRecDepth 100000 in
theorem sn_Mo_print_119 {L : Nat} {xs : Nat → Int32} {kk32 : Int32 → wd_S → Option (Int32 × wd_S)} {kk92 : Int32 → Int32 → Int32 → wd_S → Option (Int32 × wd_S)} (hk32 : ∀ {l1 : Int32} {S : wd_S} {x : Int32} {S' : wd_S}, kk32 l1 S = some (x, S') → go_r tb_P L xs 4 195 32 [(0, .ref 135), (1, .int l1)] [] (wd_k S) (.inl (some (.int x)), wd_k S')) (hk92 : ∀ {l1 : Int32} {l2 : Int32} {l3 : Int32} {S : wd_S} {x : Int32} {S' : wd_S}, kk92 l1 l2 l3 S = some (x, S') → go_r tb_P L xs 4 195 92 [(0, .ref 135), (1, .int l1), (2, .int l2), (3, .int l3)] [] (wd_k S) (.inl (some (.int x)), wd_k S')) {l1 : Int32} {l2 : Int32} {l3 : Int32} {S : wd_S} {x : Int32} {S' : wd_S} (h : fn_Mo_print_119 kk32 kk92 l1 l2 l3 S = some (x, S')) : go_r tb_P L xs 4 195 119 [(0, .ref 135), (1, .int l1), (2, .int l2), (3, .int l3)] [] (wd_k S) (.inl (some (.int x)), wd_k S') := by
  unfold fn_Mo_print_119 at h
  refine bk_b (q := (124, [(0, .ref 135), (1, .int l1), (2, .int l2), (3, .int l3)], [.int ((97 : Int32) + l3), .ref 135])) tb_c_195_1 mx_195 4 rfl ?_
  obtain ⟨S59, c61, h⟩ := wd_dx h
  refine bk_kv tb_c_195_1 rfl rfl rfl rfl rfl (ci := 11) rfl rfl (ev_up (Nat.le_of_ble_eq_true rfl) (sn_Mo_lay c61)) ?_
  refine bk_b (q := (92, [(3, .int (l3 + (1 : Int32))), (0, .ref 135), (1, .int l1), (2, .int l2)], [])) tb_c_195_1 mx_195 2 rfl ?_
  exact go_lv (ls_sc rfl rfl (ls_sc rfl rfl (ls_sc rfl rfl (ls_sc rfl rfl ls_nil)))) (hk92 h)
noncomputable def fn_Mo_print_92 (kk32 : Int32 → wd_S → Option (Int32 × wd_S)) : Nat → Int32 → Int32 → Int32 → wd_S → Option (Int32 × wd_S)
  | 0, _, _, _, _ => none
  | n + 1, l1, l2, l3, S =>
    (if l3 < (S.1 135 93) then
      (if 0 < l3 then
        (wd_c (fn_Mo_eight (0 : Int32) (0 : Int32) (0 : Int32) (0 : Int32) (44 : Int32) (32 : Int32) S) fun x63 S62 =>
        (wd_d (fn_Mo_layAll x63 S62) fun S65 =>
        fn_Mo_print_119 kk32 (fn_Mo_print_92 kk32 n) l1 l2 l3 S65))
      else
        fn_Mo_print_119 kk32 (fn_Mo_print_92 kk32 n) l1 l2 l3 S)
    else
      (wd_c (fn_Mo_eight (0 : Int32) (0 : Int32) (41 : Int32) (32 : Int32) (61 : Int32) (32 : Int32) S) fun x30 S29 =>
      (wd_d (fn_Mo_layAll x30 S29) fun S32 =>
      (wd_b (wd_i S32 135 76 (0 : Int32)) fun S35 =>
      (if l2 < 0 ∨ 160 ≤ l2.toNatClampNeg then none else
      (wd_d (fn_Mo_later (2 : Int32) (S35.1 162 l2.toNatClampNeg) S35) fun S37 =>
      fn_Mo_print_166 kk32 wd_F l1 S37))))))
set_option maxRecDepth 100000 in
theorem sn_Mo_print_92 {L : Nat} {xs : Nat → Int32} {kk32 : Int32 → wd_S → Option (Int32 × wd_S)} (hk32 : ∀ {l1 : Int32} {S : wd_S} {x : Int32} {S' : wd_S}, kk32 l1 S = some (x, S') → go_r tb_P L xs 4 195 32 [(0, .ref 135), (1, .int l1)] [] (wd_k S) (.inl (some (.int x)), wd_k S')) : ∀ (n : Nat) {l1 : Int32} {l2 : Int32} {l3 : Int32} {S : wd_S} {x : Int32} {S' : wd_S}, fn_Mo_print_92 kk32 n l1 l2 l3 S = some (x, S') → go_r tb_P L xs 4 195 92 [(0, .ref 135), (1, .int l1), (2, .int l2), (3, .int l3)] [] (wd_k S) (.inl (some (.int x)), wd_k S') := by
  intro n
  induction n with
  | zero => intro l1 l2 l3 S x S'  h; cases h
  | succ n ih =>
    intro l1 l2 l3 S x S'  h
    rw [fn_Mo_print_92] at h
    refine bk_b (q := (94, [(0, .ref 135), (1, .int l1), (2, .int l2), (3, .int l3)], [.ref 135, .int l3])) tb_c_195_1 mx_195 2 rfl ?_
    refine bk_gi tb_c_195_1 rfl rfl (ci := 11) (k := 93) rfl rfl rfl ?_
    by_cases g28 : l3 < (S.1 135 93)
    · rw [if_pos g28] at h
      refine bk_jf tb_c_195_1 rfl (pc' := 100) rfl (t := 133) rfl (cm_ge_f g28) ?_
      refine bk_b (q := (101, [(0, .ref 135), (1, .int l1), (2, .int l2), (3, .int l3)], [.int l3])) tb_c_195_1 mx_195 1 rfl ?_
      by_cases g58 : 0 < l3
      · rw [if_pos g58] at h
        refine bk_zf tb_c_195_1 rfl (pc' := 104) rfl (t := 119) rfl (cm_le_f g58) ?_
        refine bk_b (q := (113, [(0, .ref 135), (1, .int l1), (2, .int l2), (3, .int l3)], [.int (32 : Int32), .int (44 : Int32), .int (0 : Int32), .int (0 : Int32), .int (0 : Int32), .int (0 : Int32), .ref 135])) tb_c_195_1 mx_195 7 rfl ?_
        obtain ⟨x63, S62, c64, h⟩ := wd_cx h
        refine bk_ks tb_c_195_1 rfl rfl rfl (by decide) rfl rfl (ev_up (Nat.le_of_ble_eq_true rfl) (sn_Mo_eight c64)) ?_
        obtain ⟨S65, c67, h⟩ := wd_dx h
        refine bk_kv tb_c_195_1 rfl rfl rfl rfl rfl (ci := 11) rfl rfl (ev_up (Nat.le_of_ble_eq_true rfl) (sn_Mo_layAll c67)) ?_
        exact go_lv (ls_sc rfl rfl (ls_sc rfl rfl (ls_sc rfl rfl (ls_sc rfl rfl ls_nil)))) (sn_Mo_print_119 hk32 ih h)
      · rw [if_neg g58] at h
        refine bk_zt tb_c_195_1 rfl (pc' := 119) rfl (cm_le_t g58) ?_
        exact go_lv (ls_sc rfl rfl (ls_sc rfl rfl (ls_sc rfl rfl (ls_sc rfl rfl ls_nil)))) (sn_Mo_print_119 hk32 ih h)
    · rw [if_neg g28] at h
      refine bk_jt tb_c_195_1 rfl (pc' := 133) rfl (cm_ge_t g28) ?_
      refine bk_b (q := (142, [(0, .ref 135), (1, .int l1), (2, .int l2), (3, .int l3)], [.int (61 : Int32), .int (32 : Int32), .int (41 : Int32), .int (0 : Int32), .int (0 : Int32), .ref 135])) tb_c_195_1 mx_195 6 rfl ?_
      refine bk_b (q := (144, [(0, .ref 135), (1, .int l1), (2, .int l2), (3, .int l3)], [.int (32 : Int32), .int (61 : Int32), .int (32 : Int32), .int (41 : Int32), .int (0 : Int32), .int (0 : Int32), .ref 135])) tb_c_195_2 mx_195 1 rfl ?_
      obtain ⟨x30, S29, c31, h⟩ := wd_cx h
      refine bk_ks tb_c_195_2 rfl rfl rfl (by decide) rfl rfl (ev_up (Nat.le_of_ble_eq_true rfl) (sn_Mo_eight c31)) ?_
      obtain ⟨S32, c34, h⟩ := wd_dx h
      refine bk_kv tb_c_195_2 rfl rfl rfl rfl rfl (ci := 11) rfl rfl (ev_up (Nat.le_of_ble_eq_true rfl) (sn_Mo_layAll c34)) ?_
      refine bk_b (q := (152, [(0, .ref 135), (1, .int l1), (2, .int l2), (3, .int l3)], [.int (0 : Int32), .ref 135])) tb_c_195_2 mx_195 2 rfl ?_
      obtain ⟨S35, eS35, h⟩ := wd_bx h
      refine bk_pi tb_c_195_2 rfl rfl (ci := 11) (k := 76) rfl rfl rfl rfl ?_
      rw [eS35]
      refine bk_b (q := (158, [(0, .ref 135), (1, .int l1), (2, .int l2), (3, .int l3)], [.ref 135, .int (2 : Int32), .ref 135])) tb_c_195_2 mx_195 3 rfl ?_
      refine bk_gc tb_c_195_2 rfl rfl (ci := 11) (k := 56) rfl rfl rfl ?_
      refine bk_b (q := (162, [(0, .ref 135), (1, .int l1), (2, .int l2), (3, .int l3)], [.int l2, .ref 162, .int (2 : Int32), .ref 135])) tb_c_195_2 mx_195 1 rfl ?_
      by_cases g36 : l2 < 0 ∨ 160 ≤ l2.toNatClampNeg
      · rw [if_pos g36] at h; cases h
      · rw [if_neg g36] at h
        refine bk_a4 tb_c_195_2 rfl rfl rfl g36 ?_
        obtain ⟨S37, c39, h⟩ := wd_dx h
        refine bk_kv tb_c_195_2 rfl rfl rfl rfl rfl (ci := 11) rfl rfl (ev_up (Nat.le_of_ble_eq_true rfl) (sn_Mo_later c39)) ?_
        exact go_lv (ls_sc rfl rfl (ls_sc rfl rfl ls_nil)) (sn_Mo_print_166 hk32 wd_F h)
noncomputable def fn_Mo_print_32 : Nat → Int32 → wd_S → Option (Int32 × wd_S)
  | 0, _, _ => none
  | n + 1, l1, S =>
    (if l1 < (S.1 135 59) then
      (if (40000 : Int32) < (S.1 135 88) then
        fn_Mo_print_246  S
      else
        (wd_c (fn_Mo_leftOf (((80 : Int32) * (S.1 135 63)) + l1) S) fun x15 S14 =>
        (wd_b (wd_i S14 135 93 x15) fun S17 =>
        (wd_b (wd_i S17 135 92 (0 : Int32)) fun S18 =>
        (wd_d (fn_Mo_lay (118 : Int32) S18) fun S19 =>
        (wd_d (fn_Mo_figures l1 S19) fun S22 =>
        (wd_d (fn_Mo_lay (40 : Int32) S22) fun S25 =>
        fn_Mo_print_92 (fn_Mo_print_32 n) wd_F l1 (((80 : Int32) * (S.1 135 63)) + l1) (0 : Int32) S25)))))))
    else
      fn_Mo_print_246  S)
set_option maxRecDepth 100000 in
theorem sn_Mo_print_32 {L : Nat} {xs : Nat → Int32} : ∀ (n : Nat) {l1 : Int32} {S : wd_S} {x : Int32} {S' : wd_S}, fn_Mo_print_32 n l1 S = some (x, S') → go_r tb_P L xs 4 195 32 [(0, .ref 135), (1, .int l1)] [] (wd_k S) (.inl (some (.int x)), wd_k S') := by
  intro n
  induction n with
  | zero => intro l1 S x S'  h; cases h
  | succ n ih =>
    intro l1 S x S'  h
    rw [fn_Mo_print_32] at h
    refine bk_b (q := (34, [(0, .ref 135), (1, .int l1)], [.ref 135, .int l1])) tb_c_195_0 mx_195 2 rfl ?_
    refine bk_gi tb_c_195_0 rfl rfl (ci := 11) (k := 59) rfl rfl rfl ?_
    by_cases g5 : l1 < (S.1 135 59)
    · rw [if_pos g5] at h
      refine bk_jf tb_c_195_0 rfl (pc' := 40) rfl (t := 246) rfl (cm_ge_f g5) ?_
      refine bk_b (q := (41, [(0, .ref 135), (1, .int l1)], [.ref 135])) tb_c_195_0 mx_195 1 rfl ?_
      refine bk_gi tb_c_195_0 rfl rfl (ci := 11) (k := 88) rfl rfl rfl ?_
      refine bk_c4 tb_c_195_0 rfl rfl (x := (40000 : Int32)) rfl ?_
      by_cases g13 : (40000 : Int32) < (S.1 135 88)
      · rw [if_pos g13] at h
        refine bk_jt tb_c_195_0 rfl (pc' := 246) rfl (cm_gt_t g13) ?_
        exact go_lv (ls_sc rfl rfl ls_nil) (sn_Mo_print_246 h)
      · rw [if_neg g13] at h
        refine bk_jf tb_c_195_0 rfl (pc' := 49) rfl (t := 246) rfl (cm_gt_f g13) ?_
        refine bk_b (q := (52, [(0, .ref 135), (1, .int l1)], [.ref 135, .int (80 : Int32)])) tb_c_195_0 mx_195 2 rfl ?_
        refine bk_gi tb_c_195_0 rfl rfl (ci := 11) (k := 63) rfl rfl rfl ?_
        refine bk_b (q := (62, [(2, .int (((80 : Int32) * (S.1 135 63)) + l1)), (0, .ref 135), (1, .int l1)], [.int (((80 : Int32) * (S.1 135 63)) + l1), .ref 135, .ref 135])) tb_c_195_0 mx_195 7 rfl ?_
        obtain ⟨x15, S14, c16, h⟩ := wd_cx h
        refine bk_kv tb_c_195_0 rfl rfl rfl rfl rfl (ci := 11) rfl rfl (ev_up (Nat.le_of_ble_eq_true rfl) (sn_Mo_leftOf c16)) ?_
        obtain ⟨S17, eS17, h⟩ := wd_bx h
        refine bk_pi tb_c_195_0 rfl rfl (ci := 11) (k := 93) rfl rfl rfl rfl ?_
        rw [eS17]
        refine bk_b (q := (70, [(2, .int (((80 : Int32) * (S.1 135 63)) + l1)), (0, .ref 135), (1, .int l1)], [.int (0 : Int32), .ref 135])) tb_c_195_0 mx_195 2 rfl ?_
        obtain ⟨S18, eS18, h⟩ := wd_bx h
        refine bk_pi tb_c_195_1 rfl rfl (ci := 11) (k := 92) rfl rfl rfl rfl ?_
        rw [eS18]
        refine bk_b (q := (76, [(2, .int (((80 : Int32) * (S.1 135 63)) + l1)), (0, .ref 135), (1, .int l1)], [.int (118 : Int32), .ref 135])) tb_c_195_1 mx_195 2 rfl ?_
        obtain ⟨S19, c21, h⟩ := wd_dx h
        refine bk_kv tb_c_195_1 rfl rfl rfl rfl rfl (ci := 11) rfl rfl (ev_up (Nat.le_of_ble_eq_true rfl) (sn_Mo_lay c21)) ?_
        refine bk_b (q := (81, [(2, .int (((80 : Int32) * (S.1 135 63)) + l1)), (0, .ref 135), (1, .int l1)], [.int l1, .ref 135])) tb_c_195_1 mx_195 2 rfl ?_
        obtain ⟨S22, c24, h⟩ := wd_dx h
        refine bk_kv tb_c_195_1 rfl rfl rfl rfl rfl (ci := 11) rfl rfl (ev_up (Nat.le_of_ble_eq_true rfl) (sn_Mo_figures c24)) ?_
        refine bk_b (q := (87, [(2, .int (((80 : Int32) * (S.1 135 63)) + l1)), (0, .ref 135), (1, .int l1)], [.int (40 : Int32), .ref 135])) tb_c_195_1 mx_195 2 rfl ?_
        obtain ⟨S25, c27, h⟩ := wd_dx h
        refine bk_kv tb_c_195_1 rfl rfl rfl rfl rfl (ci := 11) rfl rfl (ev_up (Nat.le_of_ble_eq_true rfl) (sn_Mo_lay c27)) ?_
        refine bk_b (q := (92, [(3, .int (0 : Int32)), (2, .int (((80 : Int32) * (S.1 135 63)) + l1)), (0, .ref 135), (1, .int l1)], [])) tb_c_195_1 mx_195 2 rfl ?_
        exact go_lv (ls_sc rfl rfl (ls_sc rfl rfl (ls_sc rfl rfl (ls_sc rfl rfl ls_nil)))) (sn_Mo_print_92 ih wd_F h)
    · rw [if_neg g5] at h
      refine bk_jt tb_c_195_0 rfl (pc' := 246) rfl (cm_ge_t g5) ?_
      exact go_lv (ls_sc rfl rfl ls_nil) (sn_Mo_print_246 h)
noncomputable def fn_Mo_print_13 (s1 : Int32) (S : wd_S) : Option (Int32 × wd_S) :=
  (wd_b (wd_i S 135 0 s1) fun S2 =>
  (if 0 < (S2.1 135 0) then
    some ((0 : Int32), S2)
  else
    (wd_b (wd_i S2 135 88 (0 : Int32)) fun S4 =>
    fn_Mo_print_32 wd_F (0 : Int32) S4)))
set_option maxRecDepth 100000 in
theorem sn_Mo_print_13 {L : Nat} {xs : Nat → Int32} {s1 : Int32} {S : wd_S} {x : Int32} {S' : wd_S} (h : fn_Mo_print_13 s1 S = some (x, S')) : go_r tb_P L xs 4 195 13 [(0, .ref 135)] [.int s1, .ref 135] (wd_k S) (.inl (some (.int x)), wd_k S') := by
  unfold fn_Mo_print_13 at h
  obtain ⟨S2, eS2, h⟩ := wd_bx h
  refine bk_pi tb_c_195_0 rfl rfl (ci := 11) (k := 0) rfl rfl rfl rfl ?_
  rw [eS2]
  refine bk_b (q := (17, [(0, .ref 135)], [.ref 135])) tb_c_195_0 mx_195 1 rfl ?_
  refine bk_gi tb_c_195_0 rfl rfl (ci := 11) (k := 0) rfl rfl rfl ?_
  by_cases g3 : 0 < (S2.1 135 0)
  · rw [if_pos g3] at h
    refine bk_zf tb_c_195_0 rfl (pc' := 23) rfl (t := 25) rfl (cm_le_f g3) ?_
    refine bk_b (q := (24, [(0, .ref 135)], [.int (0 : Int32)])) tb_c_195_0 mx_195 1 rfl ?_
    cases h
    exact bk_t tb_c_195_0 rfl rfl
  · rw [if_neg g3] at h
    refine bk_zt tb_c_195_0 rfl (pc' := 25) rfl (cm_le_t g3) ?_
    refine bk_b (q := (27, [(0, .ref 135)], [.int (0 : Int32), .ref 135])) tb_c_195_0 mx_195 2 rfl ?_
    obtain ⟨S4, eS4, h⟩ := wd_bx h
    refine bk_pi tb_c_195_0 rfl rfl (ci := 11) (k := 88) rfl rfl rfl rfl ?_
    rw [eS4]
    refine bk_b (q := (32, [(1, .int (0 : Int32)), (0, .ref 135)], [])) tb_c_195_0 mx_195 2 rfl ?_
    exact go_lv (ls_sc rfl rfl (ls_sc rfl rfl ls_nil)) (sn_Mo_print_32 wd_F h)
/-- SpecialiserModel.print()I -/
noncomputable def fn_Mo_print (S : wd_S) : Option (Int32 × wd_S) :=
  (if (S.1 135 59) = 0 then
    fn_Mo_print_13 (1 : Int32) S
  else
    fn_Mo_print_13 (0 : Int32) S)
set_option maxRecDepth 100000 in
theorem sn_Mo_print {L : Nat} {xs : Nat → Int32} {S : wd_S} {x : Int32} {S' : wd_S} (h : fn_Mo_print  S = some (x, S')) : ev_r tb_P L xs (4 + 1) 195 [.ref 135] (wd_k S) (.inl (some (.int x)), wd_k S') := by
  unfold fn_Mo_print at h
  refine ev_of (Nat.le_of_ble_eq_true rfl) ?_
  show go_r tb_P L xs 4 195 0 [(0, .ref 135)] [] (wd_k S) (.inl (some (.int x)), wd_k S')
  refine bk_b (q := (2, [(0, .ref 135)], [.ref 135, .ref 135])) tb_c_195_0 mx_195 2 rfl ?_
  refine bk_gi tb_c_195_0 rfl rfl (ci := 11) (k := 59) rfl rfl rfl ?_
  by_cases g1 : (S.1 135 59) = 0
  · rw [if_pos g1] at h
    refine bk_zf tb_c_195_0 rfl (pc' := 8) rfl (t := 12) rfl (cm_ne_f g1) ?_
    refine bk_b (q := (13, [(0, .ref 135)], [.int (1 : Int32), .ref 135])) tb_c_195_0 mx_195 2 rfl ?_
    exact go_lv (ls_sc rfl rfl ls_nil) (sn_Mo_print_13 h)
  · rw [if_neg g1] at h
    refine bk_zt tb_c_195_0 rfl (pc' := 12) rfl (cm_ne_t g1) ?_
    refine bk_b (q := (13, [(0, .ref 135)], [.int (0 : Int32), .ref 135])) tb_c_195_0 mx_195 1 rfl ?_
    exact go_lv (ls_sc rfl rfl ls_nil) (sn_Mo_print_13 h)
theorem mx_203 : mi_mx tb_P 203 = 2 := rfl
noncomputable def fn_Mo_out_42 (s0 : Int32) (S : wd_S) : Option (Int32 × wd_S) :=
  some (s0, S)
set_option maxRecDepth 100000 in
theorem sn_Mo_out_42 {L : Nat} {xs : Nat → Int32} {s0 : Int32} {S : wd_S} {x : Int32} {S' : wd_S} (h : fn_Mo_out_42 s0 S = some (x, S')) : go_r tb_P L xs 1 203 42 [] [.int s0] (wd_k S) (.inl (some (.int x)), wd_k S') := by
  unfold fn_Mo_out_42 at h
  cases h
  exact bk_t tb_c_203_0 rfl rfl
noncomputable def fn_Mo_out_22 (l1 : Int32) (s1 : Int32) (S : wd_S) : Option (Int32 × wd_S) :=
  (wd_b (wd_i S 135 0 s1) fun S5 =>
  (if 0 < (S5.1 135 0) then
    fn_Mo_out_42 (0 : Int32) S5
  else
    (if l1 < 0 ∨ 40000 ≤ l1.toNatClampNeg then none else
    fn_Mo_out_42 (S5.1 175 l1.toNatClampNeg) S5)))
set_option maxRecDepth 100000 in
theorem sn_Mo_out_22 {L : Nat} {xs : Nat → Int32} {l1 : Int32} {s1 : Int32} {S : wd_S} {x : Int32} {S' : wd_S} (h : fn_Mo_out_22 l1 s1 S = some (x, S')) : go_r tb_P L xs 1 203 22 [(0, .ref 135), (1, .int l1)] [.int s1, .ref 135] (wd_k S) (.inl (some (.int x)), wd_k S') := by
  unfold fn_Mo_out_22 at h
  obtain ⟨S5, eS5, h⟩ := wd_bx h
  refine bk_pi tb_c_203_0 rfl rfl (ci := 11) (k := 0) rfl rfl rfl rfl ?_
  rw [eS5]
  refine bk_b (q := (26, [(0, .ref 135), (1, .int l1)], [.ref 135])) tb_c_203_0 mx_203 1 rfl ?_
  refine bk_gi tb_c_203_0 rfl rfl (ci := 11) (k := 0) rfl rfl rfl ?_
  by_cases g6 : 0 < (S5.1 135 0)
  · rw [if_pos g6] at h
    refine bk_zf tb_c_203_0 rfl (pc' := 32) rfl (t := 36) rfl (cm_le_f g6) ?_
    refine bk_b (q := (42, [(0, .ref 135), (1, .int l1)], [.int (0 : Int32)])) tb_c_203_0 mx_203 2 rfl ?_
    exact go_lv ls_nil (sn_Mo_out_42 h)
  · rw [if_neg g6] at h
    refine bk_zt tb_c_203_0 rfl (pc' := 36) rfl (cm_le_t g6) ?_
    refine bk_b (q := (37, [(0, .ref 135), (1, .int l1)], [.ref 135])) tb_c_203_0 mx_203 1 rfl ?_
    refine bk_gc tb_c_203_0 rfl rfl (ci := 11) (k := 86) rfl rfl rfl ?_
    refine bk_b (q := (41, [(0, .ref 135), (1, .int l1)], [.int l1, .ref 175])) tb_c_203_0 mx_203 1 rfl ?_
    by_cases g7 : l1 < 0 ∨ 40000 ≤ l1.toNatClampNeg
    · rw [if_pos g7] at h; cases h
    · rw [if_neg g7] at h
      refine bk_a4 tb_c_203_0 rfl rfl rfl g7 ?_
      exact go_lv ls_nil (sn_Mo_out_42 h)
/-- SpecialiserModel.out(I)I -/
noncomputable def fn_Mo_out (p1 : Int32) (S : wd_S) : Option (Int32 × wd_S) :=
  (wd_c (fn_Mo_within ((p1).toInt64) (0 : Int64) ((((S.1 135 89) - (1 : Int32))).toInt64) S) fun x2 S1 =>
  (if x2 = 0 then
    fn_Mo_out_22 p1 (1 : Int32) S1
  else
    fn_Mo_out_22 p1 (0 : Int32) S1))
set_option maxRecDepth 100000 in
theorem sn_Mo_out {L : Nat} {xs : Nat → Int32} {p1 : Int32} {S : wd_S} {x : Int32} {S' : wd_S} (h : fn_Mo_out p1 S = some (x, S')) : ev_r tb_P L xs (1 + 1) 203 [.ref 135, .int p1] (wd_k S) (.inl (some (.int x)), wd_k S') := by
  unfold fn_Mo_out at h
  refine ev_of (Nat.le_of_ble_eq_true rfl) ?_
  show go_r tb_P L xs 1 203 0 [(0, .ref 135), (1, .int p1)] [] (wd_k S) (.inl (some (.int x)), wd_k S')
  refine bk_b (q := (5, [(0, .ref 135), (1, .int p1)], [.ref 135, .long (0 : Int64), .long ((p1).toInt64), .ref 135])) tb_c_203_0 mx_203 5 rfl ?_
  refine bk_gi tb_c_203_0 rfl rfl (ci := 11) (k := 89) rfl rfl rfl ?_
  refine bk_b (q := (11, [(0, .ref 135), (1, .int p1)], [.long ((((S.1 135 89) - (1 : Int32))).toInt64), .long (0 : Int64), .long ((p1).toInt64), .ref 135])) tb_c_203_0 mx_203 3 rfl ?_
  obtain ⟨x2, S1, c3, h⟩ := wd_cx h
  refine bk_ks tb_c_203_0 rfl rfl rfl (by decide) rfl rfl (ev_up (Nat.le_of_ble_eq_true rfl) (sn_Mo_within c3)) ?_
  by_cases g4 : x2 = 0
  · rw [if_pos g4] at h
    refine bk_zt tb_c_203_0 rfl (pc' := 21) rfl (cm_eq_t g4) ?_
    refine bk_b (q := (22, [(0, .ref 135), (1, .int p1)], [.int (1 : Int32), .ref 135])) tb_c_203_0 mx_203 1 rfl ?_
    exact go_lv (ls_sc rfl rfl (ls_sc rfl rfl ls_nil)) (sn_Mo_out_22 h)
  · rw [if_neg g4] at h
    refine bk_zf tb_c_203_0 rfl (pc' := 17) rfl (t := 21) rfl (cm_eq_f g4) ?_
    refine bk_b (q := (22, [(0, .ref 135), (1, .int p1)], [.int (0 : Int32), .ref 135])) tb_c_203_0 mx_203 2 rfl ?_
    exact go_lv (ls_sc rfl rfl (ls_sc rfl rfl ls_nil)) (sn_Mo_out_22 h)
theorem mx_204 : mi_mx tb_P 204 = 2 := rfl
noncomputable def fn_Mo_back_30 : Nat → Int32 → wd_S → Option (Int32 × wd_S)
  | 0, _, _ => none
  | n + 1, l1, S =>
    (if l1 < (S.1 135 89) then
      (if l1 < 0 ∨ 40000 ≤ l1.toNatClampNeg then none else
      (if l1 < 0 ∨ 8000 ≤ l1.toNatClampNeg then none else
      (wd_b (wd_i S 136 l1.toNatClampNeg (S.1 175 l1.toNatClampNeg)) fun S8 =>
      fn_Mo_back_30 n (l1 + (1 : Int32)) S8)))
    else
      (wd_b (wd_i S 135 2 (S.1 135 89)) fun S5 =>
      some (S5.1 135 2, S5)))
set_option maxRecDepth 100000 in
theorem sn_Mo_back_30 {L : Nat} {xs : Nat → Int32} : ∀ (n : Nat) {l1 : Int32} {S : wd_S} {x : Int32} {S' : wd_S}, fn_Mo_back_30 n l1 S = some (x, S') → go_r tb_P L xs 0 204 30 [(0, .ref 135), (1, .int l1)] [] (wd_k S) (.inl (some (.int x)), wd_k S') := by
  intro n
  induction n with
  | zero => intro l1 S x S'  h; cases h
  | succ n ih =>
    intro l1 S x S'  h
    rw [fn_Mo_back_30] at h
    refine bk_b (q := (32, [(0, .ref 135), (1, .int l1)], [.ref 135, .int l1])) tb_c_204_0 mx_204 2 rfl ?_
    refine bk_gi tb_c_204_0 rfl rfl (ci := 11) (k := 89) rfl rfl rfl ?_
    by_cases g4 : l1 < (S.1 135 89)
    · rw [if_pos g4] at h
      refine bk_jf tb_c_204_0 rfl (pc' := 38) rfl (t := 56) rfl (cm_ge_f g4) ?_
      refine bk_b (q := (39, [(0, .ref 135), (1, .int l1)], [.ref 135])) tb_c_204_0 mx_204 1 rfl ?_
      refine bk_gc tb_c_204_0 rfl rfl (ci := 11) (k := 1) rfl rfl rfl ?_
      refine bk_b (q := (44, [(0, .ref 135), (1, .int l1)], [.ref 135, .int l1, .ref 136])) tb_c_204_0 mx_204 2 rfl ?_
      refine bk_gc tb_c_204_0 rfl rfl (ci := 11) (k := 86) rfl rfl rfl ?_
      refine bk_b (q := (48, [(0, .ref 135), (1, .int l1)], [.int l1, .ref 175, .int l1, .ref 136])) tb_c_204_0 mx_204 1 rfl ?_
      by_cases g6 : l1 < 0 ∨ 40000 ≤ l1.toNatClampNeg
      · rw [if_pos g6] at h; cases h
      · rw [if_neg g6] at h
        refine bk_a4 tb_c_204_0 rfl rfl rfl g6 ?_
        by_cases g7 : l1 < 0 ∨ 8000 ≤ l1.toNatClampNeg
        · rw [if_pos g7] at h; cases h
        · rw [if_neg g7] at h
          obtain ⟨S8, eS8, h⟩ := wd_bx h
          refine bk_s4 tb_c_204_0 rfl rfl rfl g7 ?_
          rw [eS8]
          refine bk_b (q := (30, [(1, .int (l1 + (1 : Int32))), (0, .ref 135)], [])) tb_c_204_0 mx_204 2 rfl ?_
          exact go_lv (ls_sc rfl rfl (ls_sc rfl rfl ls_nil)) (ih h)
    · rw [if_neg g4] at h
      refine bk_jt tb_c_204_0 rfl (pc' := 56) rfl (cm_ge_t g4) ?_
      refine bk_b (q := (58, [(0, .ref 135), (1, .int l1)], [.ref 135, .ref 135])) tb_c_204_0 mx_204 2 rfl ?_
      refine bk_gi tb_c_204_0 rfl rfl (ci := 11) (k := 89) rfl rfl rfl ?_
      obtain ⟨S5, eS5, h⟩ := wd_bx h
      refine bk_pi tb_c_204_0 rfl rfl (ci := 11) (k := 2) rfl rfl rfl rfl ?_
      rw [eS5]
      refine bk_b (q := (65, [(0, .ref 135), (1, .int l1)], [.ref 135])) tb_c_204_0 mx_204 1 rfl ?_
      refine bk_gi tb_c_204_0 rfl rfl (ci := 11) (k := 2) rfl rfl rfl ?_
      cases h
      exact bk_t tb_c_204_0 rfl rfl
noncomputable def fn_Mo_back_16 (s1 : Int32) (S : wd_S) : Option (Int32 × wd_S) :=
  (wd_b (wd_i S 135 0 s1) fun S2 =>
  (if 0 < (S2.1 135 0) then
    some ((0 : Int32), S2)
  else
    fn_Mo_back_30 wd_F (0 : Int32) S2))
set_option maxRecDepth 100000 in
theorem sn_Mo_back_16 {L : Nat} {xs : Nat → Int32} {s1 : Int32} {S : wd_S} {x : Int32} {S' : wd_S} (h : fn_Mo_back_16 s1 S = some (x, S')) : go_r tb_P L xs 0 204 16 [(0, .ref 135)] [.int s1, .ref 135] (wd_k S) (.inl (some (.int x)), wd_k S') := by
  unfold fn_Mo_back_16 at h
  obtain ⟨S2, eS2, h⟩ := wd_bx h
  refine bk_pi tb_c_204_0 rfl rfl (ci := 11) (k := 0) rfl rfl rfl rfl ?_
  rw [eS2]
  refine bk_b (q := (20, [(0, .ref 135)], [.ref 135])) tb_c_204_0 mx_204 1 rfl ?_
  refine bk_gi tb_c_204_0 rfl rfl (ci := 11) (k := 0) rfl rfl rfl ?_
  by_cases g3 : 0 < (S2.1 135 0)
  · rw [if_pos g3] at h
    refine bk_zf tb_c_204_0 rfl (pc' := 26) rfl (t := 28) rfl (cm_le_f g3) ?_
    refine bk_b (q := (27, [(0, .ref 135)], [.int (0 : Int32)])) tb_c_204_0 mx_204 1 rfl ?_
    cases h
    exact bk_t tb_c_204_0 rfl rfl
  · rw [if_neg g3] at h
    refine bk_zt tb_c_204_0 rfl (pc' := 28) rfl (cm_le_t g3) ?_
    refine bk_b (q := (30, [(1, .int (0 : Int32)), (0, .ref 135)], [])) tb_c_204_0 mx_204 2 rfl ?_
    exact go_lv (ls_sc rfl rfl (ls_sc rfl rfl ls_nil)) (sn_Mo_back_30 wd_F h)
/-- SpecialiserModel.back()I -/
noncomputable def fn_Mo_back (S : wd_S) : Option (Int32 × wd_S) :=
  (if (8000 : Int32) < (S.1 135 89) then
    fn_Mo_back_16 (1 : Int32) S
  else
    fn_Mo_back_16 (0 : Int32) S)
set_option maxRecDepth 100000 in
theorem sn_Mo_back {L : Nat} {xs : Nat → Int32} {S : wd_S} {x : Int32} {S' : wd_S} (h : fn_Mo_back  S = some (x, S')) : ev_r tb_P L xs (0 + 1) 204 [.ref 135] (wd_k S) (.inl (some (.int x)), wd_k S') := by
  unfold fn_Mo_back at h
  refine ev_of (Nat.le_of_ble_eq_true rfl) ?_
  show go_r tb_P L xs 0 204 0 [(0, .ref 135)] [] (wd_k S) (.inl (some (.int x)), wd_k S')
  refine bk_b (q := (2, [(0, .ref 135)], [.ref 135, .ref 135])) tb_c_204_0 mx_204 2 rfl ?_
  refine bk_gi tb_c_204_0 rfl rfl (ci := 11) (k := 89) rfl rfl rfl ?_
  refine bk_b (q := (8, [(0, .ref 135)], [.int (8000 : Int32), .int (S.1 135 89), .ref 135])) tb_c_204_0 mx_204 1 rfl ?_
  by_cases g1 : (8000 : Int32) < (S.1 135 89)
  · rw [if_pos g1] at h
    refine bk_jf tb_c_204_0 rfl (pc' := 11) rfl (t := 15) rfl (cm_le_f g1) ?_
    refine bk_b (q := (16, [(0, .ref 135)], [.int (1 : Int32), .ref 135])) tb_c_204_0 mx_204 2 rfl ?_
    exact go_lv (ls_sc rfl rfl ls_nil) (sn_Mo_back_16 h)
  · rw [if_neg g1] at h
    refine bk_jt tb_c_204_0 rfl (pc' := 15) rfl (cm_le_t g1) ?_
    refine bk_b (q := (16, [(0, .ref 135)], [.int (0 : Int32), .ref 135])) tb_c_204_0 mx_204 1 rfl ?_
    exact go_lv (ls_sc rfl rfl ls_nil) (sn_Mo_back_16 h)
theorem mx_205 : mi_mx tb_P 205 = 2 := rfl
noncomputable def fn_Mo_give_14 (l1 : Int32) (s1 : Int32) (S : wd_S) : Option (Int32 × wd_S) :=
  (wd_b (wd_i S 135 0 s1) fun S2 =>
  (if 0 < (S2.1 135 0) then
    some ((0 : Int32), S2)
  else
    (if (S2.1 135 95) < 0 ∨ 4 ≤ (S2.1 135 95).toNatClampNeg then none else
    (wd_b (wd_i S2 179 (S2.1 135 95).toNatClampNeg l1) fun S5 =>
    (wd_b (wd_i S5 135 95 ((S5.1 135 95) + (1 : Int32))) fun S6 =>
    some (S6.1 135 95, S6))))))
set_option maxRecDepth 100000 in
theorem sn_Mo_give_14 {L : Nat} {xs : Nat → Int32} {l1 : Int32} {s1 : Int32} {S : wd_S} {x : Int32} {S' : wd_S} (h : fn_Mo_give_14 l1 s1 S = some (x, S')) : go_r tb_P L xs 0 205 14 [(0, .ref 135), (1, .int l1)] [.int s1, .ref 135] (wd_k S) (.inl (some (.int x)), wd_k S') := by
  unfold fn_Mo_give_14 at h
  obtain ⟨S2, eS2, h⟩ := wd_bx h
  refine bk_pi tb_c_205_0 rfl rfl (ci := 11) (k := 0) rfl rfl rfl rfl ?_
  rw [eS2]
  refine bk_b (q := (18, [(0, .ref 135), (1, .int l1)], [.ref 135])) tb_c_205_0 mx_205 1 rfl ?_
  refine bk_gi tb_c_205_0 rfl rfl (ci := 11) (k := 0) rfl rfl rfl ?_
  by_cases g3 : 0 < (S2.1 135 0)
  · rw [if_pos g3] at h
    refine bk_zf tb_c_205_0 rfl (pc' := 24) rfl (t := 26) rfl (cm_le_f g3) ?_
    refine bk_b (q := (25, [(0, .ref 135), (1, .int l1)], [.int (0 : Int32)])) tb_c_205_0 mx_205 1 rfl ?_
    cases h
    exact bk_t tb_c_205_0 rfl rfl
  · rw [if_neg g3] at h
    refine bk_zt tb_c_205_0 rfl (pc' := 26) rfl (cm_le_t g3) ?_
    refine bk_b (q := (27, [(0, .ref 135), (1, .int l1)], [.ref 135])) tb_c_205_0 mx_205 1 rfl ?_
    refine bk_gc tb_c_205_0 rfl rfl (ci := 11) (k := 94) rfl rfl rfl ?_
    refine bk_b (q := (31, [(0, .ref 135), (1, .int l1)], [.ref 135, .ref 179])) tb_c_205_0 mx_205 1 rfl ?_
    refine bk_gi tb_c_205_0 rfl rfl (ci := 11) (k := 95) rfl rfl rfl ?_
    refine bk_b (q := (35, [(0, .ref 135), (1, .int l1)], [.int l1, .int (S2.1 135 95), .ref 179])) tb_c_205_0 mx_205 1 rfl ?_
    by_cases g4 : (S2.1 135 95) < 0 ∨ 4 ≤ (S2.1 135 95).toNatClampNeg
    · rw [if_pos g4] at h; cases h
    · rw [if_neg g4] at h
      obtain ⟨S5, eS5, h⟩ := wd_bx h
      refine bk_s4 tb_c_205_0 rfl rfl rfl g4 ?_
      rw [eS5]
      refine bk_b (q := (38, [(0, .ref 135), (1, .int l1)], [.ref 135, .ref 135])) tb_c_205_0 mx_205 2 rfl ?_
      refine bk_gi tb_c_205_0 rfl rfl (ci := 11) (k := 95) rfl rfl rfl ?_
      refine bk_b (q := (43, [(0, .ref 135), (1, .int l1)], [.int ((S5.1 135 95) + (1 : Int32)), .ref 135])) tb_c_205_0 mx_205 2 rfl ?_
      obtain ⟨S6, eS6, h⟩ := wd_bx h
      refine bk_pi tb_c_205_0 rfl rfl (ci := 11) (k := 95) rfl rfl rfl rfl ?_
      rw [eS6]
      refine bk_b (q := (47, [(0, .ref 135), (1, .int l1)], [.ref 135])) tb_c_205_0 mx_205 1 rfl ?_
      refine bk_gi tb_c_205_0 rfl rfl (ci := 11) (k := 95) rfl rfl rfl ?_
      cases h
      exact bk_t tb_c_205_0 rfl rfl
/-- SpecialiserModel.give(I)I -/
noncomputable def fn_Mo_give (p1 : Int32) (S : wd_S) : Option (Int32 × wd_S) :=
  (if (S.1 135 95) = (4 : Int32) then
    fn_Mo_give_14 p1 (1 : Int32) S
  else
    fn_Mo_give_14 p1 (0 : Int32) S)
set_option maxRecDepth 100000 in
theorem sn_Mo_give {L : Nat} {xs : Nat → Int32} {p1 : Int32} {S : wd_S} {x : Int32} {S' : wd_S} (h : fn_Mo_give p1 S = some (x, S')) : ev_r tb_P L xs (0 + 1) 205 [.ref 135, .int p1] (wd_k S) (.inl (some (.int x)), wd_k S') := by
  unfold fn_Mo_give at h
  refine ev_of (Nat.le_of_ble_eq_true rfl) ?_
  show go_r tb_P L xs 0 205 0 [(0, .ref 135), (1, .int p1)] [] (wd_k S) (.inl (some (.int x)), wd_k S')
  refine bk_b (q := (2, [(0, .ref 135), (1, .int p1)], [.ref 135, .ref 135])) tb_c_205_0 mx_205 2 rfl ?_
  refine bk_gi tb_c_205_0 rfl rfl (ci := 11) (k := 95) rfl rfl rfl ?_
  refine bk_b (q := (6, [(0, .ref 135), (1, .int p1)], [.int (4 : Int32), .int (S.1 135 95), .ref 135])) tb_c_205_0 mx_205 1 rfl ?_
  by_cases g1 : (S.1 135 95) = (4 : Int32)
  · rw [if_pos g1] at h
    refine bk_jf tb_c_205_0 rfl (pc' := 9) rfl (t := 13) rfl (cm_ne_f g1) ?_
    refine bk_b (q := (14, [(0, .ref 135), (1, .int p1)], [.int (1 : Int32), .ref 135])) tb_c_205_0 mx_205 2 rfl ?_
    exact go_lv (ls_sc rfl rfl (ls_sc rfl rfl ls_nil)) (sn_Mo_give_14 h)
  · rw [if_neg g1] at h
    refine bk_jt tb_c_205_0 rfl (pc' := 13) rfl (cm_ne_t g1) ?_
    refine bk_b (q := (14, [(0, .ref 135), (1, .int p1)], [.int (0 : Int32), .ref 135])) tb_c_205_0 mx_205 1 rfl ?_
    exact go_lv (ls_sc rfl rfl (ls_sc rfl rfl ls_nil)) (sn_Mo_give_14 h)
theorem mx_206 : mi_mx tb_P 206 = 8 := rfl
noncomputable def fn_Mo_run_244 (l7 : Int32) (s1 : Int32) (S : wd_S) : Option (Int32 × wd_S) :=
  (wd_b (wd_i S 135 96 s1) fun S21 =>
  (wd_b (wd_i S21 135 97 (S21.1 135 48)) fun S22 =>
  (wd_b (wd_i S22 135 98 (S22.1 135 51)) fun S23 =>
  some (l7, S23))))
set_option maxRecDepth 100000 in
theorem sn_Mo_run_244 {L : Nat} {xs : Nat → Int32} {l7 : Int32} {s1 : Int32} {S : wd_S} {x : Int32} {S' : wd_S} (h : fn_Mo_run_244 l7 s1 S = some (x, S')) : go_r tb_P L xs 3 206 244 [(0, .ref 135), (7, .int l7)] [.int s1, .ref 135] (wd_k S) (.inl (some (.int x)), wd_k S') := by
  unfold fn_Mo_run_244 at h
  obtain ⟨S21, eS21, h⟩ := wd_bx h
  refine bk_pi tb_c_206_3 rfl rfl (ci := 11) (k := 96) rfl rfl rfl rfl ?_
  rw [eS21]
  refine bk_b (q := (249, [(0, .ref 135), (7, .int l7)], [.ref 135, .ref 135])) tb_c_206_3 mx_206 2 rfl ?_
  refine bk_gi tb_c_206_3 rfl rfl (ci := 11) (k := 48) rfl rfl rfl ?_
  obtain ⟨S22, eS22, h⟩ := wd_bx h
  refine bk_pi tb_c_206_3 rfl rfl (ci := 11) (k := 97) rfl rfl rfl rfl ?_
  rw [eS22]
  refine bk_b (q := (257, [(0, .ref 135), (7, .int l7)], [.ref 135, .ref 135])) tb_c_206_3 mx_206 2 rfl ?_
  refine bk_gi tb_c_206_3 rfl rfl (ci := 11) (k := 51) rfl rfl rfl ?_
  obtain ⟨S23, eS23, h⟩ := wd_bx h
  refine bk_pi tb_c_206_3 rfl rfl (ci := 11) (k := 98) rfl rfl rfl rfl ?_
  rw [eS23]
  refine bk_b (q := (265, [(0, .ref 135), (7, .int l7)], [.int l7])) tb_c_206_3 mx_206 1 rfl ?_
  cases h
  exact bk_t tb_c_206_3 rfl rfl
noncomputable def fn_Mo_run_223 (l3 : Int32) (s1 : Int32) (S : wd_S) : Option (Int32 × wd_S) :=
  (wd_c (fn_Mo_goes s1 l3 S) fun x18 S17 =>
  (if x18 = (1 : Int32) then
    fn_Mo_run_244 x18 (S17.1 135 47) S17
  else
    fn_Mo_run_244 x18 (0 : Int32) S17))
set_option maxRecDepth 100000 in
theorem sn_Mo_run_223 {L : Nat} {xs : Nat → Int32} {l3 : Int32} {s1 : Int32} {S : wd_S} {x : Int32} {S' : wd_S} (h : fn_Mo_run_223 l3 s1 S = some (x, S')) : go_r tb_P L xs 3 206 223 [(0, .ref 135), (3, .int l3)] [.int s1, .ref 135] (wd_k S) (.inl (some (.int x)), wd_k S') := by
  unfold fn_Mo_run_223 at h
  refine bk_b (q := (224, [(0, .ref 135), (3, .int l3)], [.int l3, .int s1, .ref 135])) tb_c_206_2 mx_206 1 rfl ?_
  obtain ⟨x18, S17, c19, h⟩ := wd_cx h
  refine bk_kv tb_c_206_2 rfl rfl rfl rfl rfl (ci := 11) rfl rfl (ev_up (Nat.le_of_ble_eq_true rfl) (sn_Mo_goes c19)) ?_
  refine bk_b (q := (230, [(7, .int x18), (0, .ref 135), (3, .int l3)], [.ref 135])) tb_c_206_2 mx_206 2 rfl ?_
  refine bk_b (q := (233, [(7, .int x18), (0, .ref 135), (3, .int l3)], [.int (1 : Int32), .int x18, .ref 135])) tb_c_206_3 mx_206 2 rfl ?_
  by_cases g20 : x18 = (1 : Int32)
  · rw [if_pos g20] at h
    refine bk_jf tb_c_206_3 rfl (pc' := 236) rfl (t := 243) rfl (cm_ne_f g20) ?_
    refine bk_b (q := (237, [(7, .int x18), (0, .ref 135), (3, .int l3)], [.ref 135, .ref 135])) tb_c_206_3 mx_206 1 rfl ?_
    refine bk_gi tb_c_206_3 rfl rfl (ci := 11) (k := 47) rfl rfl rfl ?_
    refine bk_b (q := (244, [(7, .int x18), (0, .ref 135), (3, .int l3)], [.int (S17.1 135 47), .ref 135])) tb_c_206_3 mx_206 1 rfl ?_
    exact go_lv (ls_sc rfl rfl (ls_sc rfl rfl ls_nil)) (sn_Mo_run_244 h)
  · rw [if_neg g20] at h
    refine bk_jt tb_c_206_3 rfl (pc' := 243) rfl (cm_ne_t g20) ?_
    refine bk_b (q := (244, [(7, .int x18), (0, .ref 135), (3, .int l3)], [.int (0 : Int32), .ref 135])) tb_c_206_3 mx_206 1 rfl ?_
    exact go_lv (ls_sc rfl rfl (ls_sc rfl rfl ls_nil)) (sn_Mo_run_244 h)
noncomputable def fn_Mo_run_167 : Nat → Int32 → Int32 → Int32 → Int32 → wd_S → Option (Int32 × wd_S)
  | 0, _, _, _, _, _ => none
  | n + 1, l1, l3, l5, l7, S =>
    (if l7 < (S.1 135 95) then
      (if l7 < 0 ∨ 4 ≤ l7.toNatClampNeg then none else
      (if l7 < 0 ∨ 2640 ≤ l7.toNatClampNeg then none else
      (wd_b (wd_i S 158 l7.toNatClampNeg (S.1 179 l7.toNatClampNeg)) fun S27 =>
      fn_Mo_run_167 n l1 l3 l5 (l7 + (1 : Int32)) S27)))
    else
      (wd_b (wd_i S 135 95 (0 : Int32)) fun S14 =>
      (if l1 = 0 then
        (if l5 < 0 ∨ 96 ≤ l5.toNatClampNeg then none else
        fn_Mo_run_223 l3 (S14.1 140 l5.toNatClampNeg) S14)
      else
        (if l5 < 0 ∨ 160 ≤ l5.toNatClampNeg then none else
        fn_Mo_run_223 l3 (S14.1 162 l5.toNatClampNeg) S14))))
set_option maxRecDepth 100000 in
theorem sn_Mo_run_167 {L : Nat} {xs : Nat → Int32} : ∀ (n : Nat) {l1 : Int32} {l3 : Int32} {l5 : Int32} {l7 : Int32} {S : wd_S} {x : Int32} {S' : wd_S}, fn_Mo_run_167 n l1 l3 l5 l7 S = some (x, S') → go_r tb_P L xs 3 206 167 [(0, .ref 135), (1, .int l1), (3, .int l3), (5, .int l5), (7, .int l7)] [] (wd_k S) (.inl (some (.int x)), wd_k S') := by
  intro n
  induction n with
  | zero => intro l1 l3 l5 l7 S x S'  h; cases h
  | succ n ih =>
    intro l1 l3 l5 l7 S x S'  h
    rw [fn_Mo_run_167] at h
    refine bk_b (q := (170, [(0, .ref 135), (1, .int l1), (3, .int l3), (5, .int l5), (7, .int l7)], [.ref 135, .int l7])) tb_c_206_2 mx_206 2 rfl ?_
    refine bk_gi tb_c_206_2 rfl rfl (ci := 11) (k := 95) rfl rfl rfl ?_
    by_cases g13 : l7 < (S.1 135 95)
    · rw [if_pos g13] at h
      refine bk_jf tb_c_206_2 rfl (pc' := 176) rfl (t := 196) rfl (cm_ge_f g13) ?_
      refine bk_b (q := (177, [(0, .ref 135), (1, .int l1), (3, .int l3), (5, .int l5), (7, .int l7)], [.ref 135])) tb_c_206_2 mx_206 1 rfl ?_
      refine bk_gc tb_c_206_2 rfl rfl (ci := 11) (k := 45) rfl rfl rfl ?_
      refine bk_b (q := (183, [(0, .ref 135), (1, .int l1), (3, .int l3), (5, .int l5), (7, .int l7)], [.ref 135, .int l7, .ref 158])) tb_c_206_2 mx_206 2 rfl ?_
      refine bk_gc tb_c_206_2 rfl rfl (ci := 11) (k := 94) rfl rfl rfl ?_
      refine bk_b (q := (188, [(0, .ref 135), (1, .int l1), (3, .int l3), (5, .int l5), (7, .int l7)], [.int l7, .ref 179, .int l7, .ref 158])) tb_c_206_2 mx_206 1 rfl ?_
      by_cases g25 : l7 < 0 ∨ 4 ≤ l7.toNatClampNeg
      · rw [if_pos g25] at h; cases h
      · rw [if_neg g25] at h
        refine bk_a4 tb_c_206_2 rfl rfl rfl g25 ?_
        by_cases g26 : l7 < 0 ∨ 2640 ≤ l7.toNatClampNeg
        · rw [if_pos g26] at h; cases h
        · rw [if_neg g26] at h
          obtain ⟨S27, eS27, h⟩ := wd_bx h
          refine bk_s4 tb_c_206_2 rfl rfl rfl g26 ?_
          rw [eS27]
          refine bk_b (q := (167, [(7, .int (l7 + (1 : Int32))), (0, .ref 135), (1, .int l1), (3, .int l3), (5, .int l5)], [])) tb_c_206_2 mx_206 2 rfl ?_
          exact go_lv (ls_sc rfl rfl (ls_sc rfl rfl (ls_sc rfl rfl (ls_sc rfl rfl (ls_sc rfl rfl ls_nil))))) (ih h)
    · rw [if_neg g13] at h
      refine bk_jt tb_c_206_2 rfl (pc' := 196) rfl (cm_ge_t g13) ?_
      refine bk_b (q := (198, [(0, .ref 135), (1, .int l1), (3, .int l3), (5, .int l5), (7, .int l7)], [.int (0 : Int32), .ref 135])) tb_c_206_2 mx_206 2 rfl ?_
      obtain ⟨S14, eS14, h⟩ := wd_bx h
      refine bk_pi tb_c_206_2 rfl rfl (ci := 11) (k := 95) rfl rfl rfl rfl ?_
      rw [eS14]
      refine bk_b (q := (203, [(0, .ref 135), (1, .int l1), (3, .int l3), (5, .int l5), (7, .int l7)], [.int l1, .ref 135])) tb_c_206_2 mx_206 2 rfl ?_
      by_cases g15 : l1 = 0
      · rw [if_pos g15] at h
        refine bk_zt tb_c_206_2 rfl (pc' := 216) rfl (cm_eq_t g15) ?_
        refine bk_b (q := (217, [(0, .ref 135), (1, .int l1), (3, .int l3), (5, .int l5), (7, .int l7)], [.ref 135, .ref 135])) tb_c_206_2 mx_206 1 rfl ?_
        refine bk_gc tb_c_206_2 rfl rfl (ci := 11) (k := 14) rfl rfl rfl ?_
        refine bk_b (q := (222, [(0, .ref 135), (1, .int l1), (3, .int l3), (5, .int l5), (7, .int l7)], [.int l5, .ref 140, .ref 135])) tb_c_206_2 mx_206 1 rfl ?_
        by_cases g16 : l5 < 0 ∨ 96 ≤ l5.toNatClampNeg
        · rw [if_pos g16] at h; cases h
        · rw [if_neg g16] at h
          refine bk_a4 tb_c_206_2 rfl rfl rfl g16 ?_
          exact go_lv (ls_sc rfl rfl (ls_sc rfl rfl ls_nil)) (sn_Mo_run_223 h)
      · rw [if_neg g15] at h
        refine bk_zf tb_c_206_2 rfl (pc' := 206) rfl (t := 216) rfl (cm_eq_f g15) ?_
        refine bk_b (q := (207, [(0, .ref 135), (1, .int l1), (3, .int l3), (5, .int l5), (7, .int l7)], [.ref 135, .ref 135])) tb_c_206_2 mx_206 1 rfl ?_
        refine bk_gc tb_c_206_2 rfl rfl (ci := 11) (k := 56) rfl rfl rfl ?_
        refine bk_b (q := (212, [(0, .ref 135), (1, .int l1), (3, .int l3), (5, .int l5), (7, .int l7)], [.int l5, .ref 162, .ref 135])) tb_c_206_2 mx_206 1 rfl ?_
        by_cases g24 : l5 < 0 ∨ 160 ≤ l5.toNatClampNeg
        · rw [if_pos g24] at h; cases h
        · rw [if_neg g24] at h
          refine bk_a4 tb_c_206_2 rfl rfl rfl g24 ?_
          refine bk_b (q := (223, [(0, .ref 135), (1, .int l1), (3, .int l3), (5, .int l5), (7, .int l7)], [.int (S14.1 162 l5.toNatClampNeg), .ref 135])) tb_c_206_2 mx_206 1 rfl ?_
          exact go_lv (ls_sc rfl rfl (ls_sc rfl rfl ls_nil)) (sn_Mo_run_223 h)
noncomputable def fn_Mo_run_152 (l1 : Int32) (l3 : Int32) (l5 : Int32) (s1 : Int32) (S : wd_S) : Option (Int32 × wd_S) :=
  (wd_b (wd_i S 135 0 s1) fun S11 =>
  (if 0 < (S11.1 135 0) then
    some ((0 : Int32), S11)
  else
    fn_Mo_run_167 wd_F l1 l3 l5 (0 : Int32) S11))
set_option maxRecDepth 100000 in
theorem sn_Mo_run_152 {L : Nat} {xs : Nat → Int32} {l1 : Int32} {l3 : Int32} {l5 : Int32} {s1 : Int32} {S : wd_S} {x : Int32} {S' : wd_S} (h : fn_Mo_run_152 l1 l3 l5 s1 S = some (x, S')) : go_r tb_P L xs 3 206 152 [(0, .ref 135), (1, .int l1), (3, .int l3), (5, .int l5)] [.int s1, .ref 135] (wd_k S) (.inl (some (.int x)), wd_k S') := by
  unfold fn_Mo_run_152 at h
  obtain ⟨S11, eS11, h⟩ := wd_bx h
  refine bk_pi tb_c_206_1 rfl rfl (ci := 11) (k := 0) rfl rfl rfl rfl ?_
  rw [eS11]
  refine bk_b (q := (156, [(0, .ref 135), (1, .int l1), (3, .int l3), (5, .int l5)], [.ref 135])) tb_c_206_2 mx_206 1 rfl ?_
  refine bk_gi tb_c_206_2 rfl rfl (ci := 11) (k := 0) rfl rfl rfl ?_
  by_cases g12 : 0 < (S11.1 135 0)
  · rw [if_pos g12] at h
    refine bk_zf tb_c_206_2 rfl (pc' := 162) rfl (t := 164) rfl (cm_le_f g12) ?_
    refine bk_b (q := (163, [(0, .ref 135), (1, .int l1), (3, .int l3), (5, .int l5)], [.int (0 : Int32)])) tb_c_206_2 mx_206 1 rfl ?_
    cases h
    exact bk_t tb_c_206_2 rfl rfl
  · rw [if_neg g12] at h
    refine bk_zt tb_c_206_2 rfl (pc' := 164) rfl (cm_le_t g12) ?_
    refine bk_b (q := (167, [(7, .int (0 : Int32)), (0, .ref 135), (1, .int l1), (3, .int l3), (5, .int l5)], [])) tb_c_206_2 mx_206 2 rfl ?_
    exact go_lv (ls_sc rfl rfl (ls_sc rfl rfl (ls_sc rfl rfl (ls_sc rfl rfl (ls_sc rfl rfl ls_nil))))) (sn_Mo_run_167 wd_F h)
noncomputable def fn_Mo_run_113 (l1 : Int32) (l3 : Int32) (l5 : Int32) (S : wd_S) : Option (Int32 × wd_S) :=
  fn_Mo_run_152 l1 l3 l5 (1 : Int32) S
set_option maxRecDepth 100000 in
theorem sn_Mo_run_113 {L : Nat} {xs : Nat → Int32} {l1 : Int32} {l3 : Int32} {l5 : Int32} {S : wd_S} {x : Int32} {S' : wd_S} (h : fn_Mo_run_113 l1 l3 l5 S = some (x, S')) : go_r tb_P L xs 3 206 113 [(0, .ref 135), (1, .int l1), (3, .int l3), (5, .int l5)] [.ref 135] (wd_k S) (.inl (some (.int x)), wd_k S') := by
  unfold fn_Mo_run_113 at h
  refine bk_b (q := (152, [(0, .ref 135), (1, .int l1), (3, .int l3), (5, .int l5)], [.int (1 : Int32), .ref 135])) tb_c_206_1 mx_206 2 rfl ?_
  exact go_lv (ls_sc rfl rfl (ls_sc rfl rfl (ls_sc rfl rfl (ls_sc rfl rfl ls_nil)))) (sn_Mo_run_152 h)
noncomputable def fn_Mo_run_147 (l1 : Int32) (l3 : Int32) (l5 : Int32) (S : wd_S) : Option (Int32 × wd_S) :=
  fn_Mo_run_152 l1 l3 l5 (3 : Int32) S
set_option maxRecDepth 100000 in
theorem sn_Mo_run_147 {L : Nat} {xs : Nat → Int32} {l1 : Int32} {l3 : Int32} {l5 : Int32} {S : wd_S} {x : Int32} {S' : wd_S} (h : fn_Mo_run_147 l1 l3 l5 S = some (x, S')) : go_r tb_P L xs 3 206 147 [(0, .ref 135), (1, .int l1), (3, .int l3), (5, .int l5)] [.ref 135] (wd_k S) (.inl (some (.int x)), wd_k S') := by
  unfold fn_Mo_run_147 at h
  refine bk_b (q := (152, [(0, .ref 135), (1, .int l1), (3, .int l3), (5, .int l5)], [.int (3 : Int32), .ref 135])) tb_c_206_1 mx_206 2 rfl ?_
  exact go_lv (ls_sc rfl rfl (ls_sc rfl rfl (ls_sc rfl rfl (ls_sc rfl rfl ls_nil)))) (sn_Mo_run_152 h)
noncomputable def fn_Mo_run_117 (l1 : Int32) (l3 : Int32) (l4 : Int32) (l5 : Int32) (l6 : Int32) (S : wd_S) : Option (Int32 × wd_S) :=
  (if l4 = 0 then
    fn_Mo_run_152 l1 l3 l5 (2 : Int32) S
  else
    (wd_c (fn_Mo_within ((l3).toInt64) (0 : Int64) (20000 : Int64) S) fun x31 S30 =>
    (if x31 = 0 then
      fn_Mo_run_147 l1 l3 l5 S30
    else
      (if (S30.1 135 95) = l6 then
        fn_Mo_run_152 l1 l3 l5 (0 : Int32) S30
      else
        fn_Mo_run_147 l1 l3 l5 S30))))
set_option maxRecDepth 100000 in
theorem sn_Mo_run_117 {L : Nat} {xs : Nat → Int32} {l1 : Int32} {l3 : Int32} {l4 : Int32} {l5 : Int32} {l6 : Int32} {S : wd_S} {x : Int32} {S' : wd_S} (h : fn_Mo_run_117 l1 l3 l4 l5 l6 S = some (x, S')) : go_r tb_P L xs 3 206 117 [(0, .ref 135), (1, .int l1), (3, .int l3), (4, .int l4), (5, .int l5), (6, .int l6)] [.ref 135] (wd_k S) (.inl (some (.int x)), wd_k S') := by
  unfold fn_Mo_run_117 at h
  refine bk_b (q := (119, [(0, .ref 135), (1, .int l1), (3, .int l3), (4, .int l4), (5, .int l5), (6, .int l6)], [.int l4, .ref 135])) tb_c_206_1 mx_206 1 rfl ?_
  by_cases g29 : l4 = 0
  · rw [if_pos g29] at h
    refine bk_zf tb_c_206_1 rfl (pc' := 122) rfl (t := 126) rfl (cm_ne_f g29) ?_
    refine bk_b (q := (152, [(0, .ref 135), (1, .int l1), (3, .int l3), (4, .int l4), (5, .int l5), (6, .int l6)], [.int (2 : Int32), .ref 135])) tb_c_206_1 mx_206 2 rfl ?_
    exact go_lv (ls_sc rfl rfl (ls_sc rfl rfl (ls_sc rfl rfl (ls_sc rfl rfl ls_nil)))) (sn_Mo_run_152 h)
  · rw [if_neg g29] at h
    refine bk_zt tb_c_206_1 rfl (pc' := 126) rfl (cm_ne_t g29) ?_
    refine bk_b (q := (129, [(0, .ref 135), (1, .int l1), (3, .int l3), (4, .int l4), (5, .int l5), (6, .int l6)], [.long (0 : Int64), .long ((l3).toInt64), .ref 135])) tb_c_206_1 mx_206 3 rfl ?_
    refine bk_c8 tb_c_206_1 rfl rfl (x := (20000 : Int64)) rfl ?_
    obtain ⟨x31, S30, c32, h⟩ := wd_cx h
    refine bk_ks tb_c_206_1 rfl rfl rfl (by decide) rfl rfl (ev_up (Nat.le_of_ble_eq_true rfl) (sn_Mo_within c32)) ?_
    by_cases g33 : x31 = 0
    · rw [if_pos g33] at h
      refine bk_zt tb_c_206_1 rfl (pc' := 147) rfl (cm_eq_t g33) ?_
      exact go_lv (ls_sc rfl rfl (ls_sc rfl rfl (ls_sc rfl rfl (ls_sc rfl rfl ls_nil)))) (sn_Mo_run_147 h)
    · rw [if_neg g33] at h
      refine bk_zf tb_c_206_1 rfl (pc' := 138) rfl (t := 147) rfl (cm_eq_f g33) ?_
      refine bk_b (q := (139, [(0, .ref 135), (1, .int l1), (3, .int l3), (4, .int l4), (5, .int l5), (6, .int l6)], [.ref 135, .ref 135])) tb_c_206_1 mx_206 1 rfl ?_
      refine bk_gi tb_c_206_1 rfl rfl (ci := 11) (k := 95) rfl rfl rfl ?_
      refine bk_b (q := (144, [(0, .ref 135), (1, .int l1), (3, .int l3), (4, .int l4), (5, .int l5), (6, .int l6)], [.int l6, .int (S30.1 135 95), .ref 135])) tb_c_206_1 mx_206 1 rfl ?_
      by_cases g34 : (S30.1 135 95) = l6
      · rw [if_pos g34] at h
        refine bk_jt tb_c_206_1 rfl (pc' := 151) rfl (cm_eq_t g34) ?_
        refine bk_b (q := (152, [(0, .ref 135), (1, .int l1), (3, .int l3), (4, .int l4), (5, .int l5), (6, .int l6)], [.int (0 : Int32), .ref 135])) tb_c_206_1 mx_206 1 rfl ?_
        exact go_lv (ls_sc rfl rfl (ls_sc rfl rfl (ls_sc rfl rfl (ls_sc rfl rfl ls_nil)))) (sn_Mo_run_152 h)
      · rw [if_neg g34] at h
        refine bk_jf tb_c_206_1 rfl (pc' := 147) rfl (t := 151) rfl (cm_eq_f g34) ?_
        exact go_lv (ls_sc rfl rfl (ls_sc rfl rfl (ls_sc rfl rfl (ls_sc rfl rfl ls_nil)))) (sn_Mo_run_147 h)
noncomputable def fn_Mo_run_92 (l1 : Int32) (l3 : Int32) (l4 : Int32) (l5 : Int32) (s0 : Int32) (S : wd_S) : Option (Int32 × wd_S) :=
  (if (S.1 135 41) = 0 then
    fn_Mo_run_113 l1 l3 l5 S
  else
    (if l1 = 0 then
      fn_Mo_run_117 l1 l3 l4 l5 s0 S
    else
      (if (S.1 135 59) = 0 then
        fn_Mo_run_113 l1 l3 l5 S
      else
        fn_Mo_run_117 l1 l3 l4 l5 s0 S)))
set_option maxRecDepth 100000 in
theorem sn_Mo_run_92 {L : Nat} {xs : Nat → Int32} {l1 : Int32} {l3 : Int32} {l4 : Int32} {l5 : Int32} {s0 : Int32} {S : wd_S} {x : Int32} {S' : wd_S} (h : fn_Mo_run_92 l1 l3 l4 l5 s0 S = some (x, S')) : go_r tb_P L xs 3 206 92 [(0, .ref 135), (1, .int l1), (3, .int l3), (4, .int l4), (5, .int l5)] [.int s0] (wd_k S) (.inl (some (.int x)), wd_k S') := by
  unfold fn_Mo_run_92 at h
  refine bk_b (q := (96, [(6, .int s0), (0, .ref 135), (1, .int l1), (3, .int l3), (4, .int l4), (5, .int l5)], [.ref 135, .ref 135])) tb_c_206_1 mx_206 3 rfl ?_
  refine bk_gi tb_c_206_1 rfl rfl (ci := 11) (k := 41) rfl rfl rfl ?_
  by_cases g10 : (S.1 135 41) = 0
  · rw [if_pos g10] at h
    refine bk_zt tb_c_206_1 rfl (pc' := 113) rfl (cm_eq_t g10) ?_
    exact go_lv (ls_sc rfl rfl (ls_sc rfl rfl (ls_sc rfl rfl (ls_sc rfl rfl ls_nil)))) (sn_Mo_run_113 h)
  · rw [if_neg g10] at h
    refine bk_zf tb_c_206_1 rfl (pc' := 102) rfl (t := 113) rfl (cm_eq_f g10) ?_
    refine bk_b (q := (103, [(6, .int s0), (0, .ref 135), (1, .int l1), (3, .int l3), (4, .int l4), (5, .int l5)], [.int l1, .ref 135])) tb_c_206_1 mx_206 1 rfl ?_
    by_cases g28 : l1 = 0
    · rw [if_pos g28] at h
      refine bk_zt tb_c_206_1 rfl (pc' := 117) rfl (cm_eq_t g28) ?_
      exact go_lv (ls_sc rfl rfl (ls_sc rfl rfl (ls_sc rfl rfl (ls_sc rfl rfl (ls_sc rfl rfl (ls_sc rfl rfl ls_nil)))))) (sn_Mo_run_117 h)
    · rw [if_neg g28] at h
      refine bk_zf tb_c_206_1 rfl (pc' := 106) rfl (t := 117) rfl (cm_eq_f g28) ?_
      refine bk_b (q := (107, [(6, .int s0), (0, .ref 135), (1, .int l1), (3, .int l3), (4, .int l4), (5, .int l5)], [.ref 135, .ref 135])) tb_c_206_1 mx_206 1 rfl ?_
      refine bk_gi tb_c_206_1 rfl rfl (ci := 11) (k := 59) rfl rfl rfl ?_
      by_cases g35 : (S.1 135 59) = 0
      · rw [if_pos g35] at h
        refine bk_zf tb_c_206_1 rfl (pc' := 113) rfl (t := 117) rfl (cm_ne_f g35) ?_
        exact go_lv (ls_sc rfl rfl (ls_sc rfl rfl (ls_sc rfl rfl (ls_sc rfl rfl ls_nil)))) (sn_Mo_run_113 h)
      · rw [if_neg g35] at h
        refine bk_zt tb_c_206_1 rfl (pc' := 117) rfl (cm_ne_t g35) ?_
        exact go_lv (ls_sc rfl rfl (ls_sc rfl rfl (ls_sc rfl rfl (ls_sc rfl rfl (ls_sc rfl rfl (ls_sc rfl rfl ls_nil)))))) (sn_Mo_run_117 h)
noncomputable def fn_Mo_run_61 (l1 : Int32) (l3 : Int32) (l4 : Int32) (s0 : Int32) (S : wd_S) : Option (Int32 × wd_S) :=
  (if l4 = 0 then
    fn_Mo_run_92 l1 l3 l4 s0 (0 : Int32) S
  else
    (if l1 = 0 then
      (if s0 < 0 ∨ 96 ≤ s0.toNatClampNeg then none else
      fn_Mo_run_92 l1 l3 l4 s0 (S.1 138 s0.toNatClampNeg) S)
    else
      (wd_c (fn_Mo_leftOf s0 S) fun x37 S36 =>
      fn_Mo_run_92 l1 l3 l4 s0 x37 S36)))
set_option maxRecDepth 100000 in
theorem sn_Mo_run_61 {L : Nat} {xs : Nat → Int32} {l1 : Int32} {l3 : Int32} {l4 : Int32} {s0 : Int32} {S : wd_S} {x : Int32} {S' : wd_S} (h : fn_Mo_run_61 l1 l3 l4 s0 S = some (x, S')) : go_r tb_P L xs 3 206 61 [(0, .ref 135), (1, .int l1), (3, .int l3), (4, .int l4)] [.int s0] (wd_k S) (.inl (some (.int x)), wd_k S') := by
  unfold fn_Mo_run_61 at h
  refine bk_b (q := (65, [(5, .int s0), (0, .ref 135), (1, .int l1), (3, .int l3), (4, .int l4)], [.int l4])) tb_c_206_0 mx_206 2 rfl ?_
  by_cases g7 : l4 = 0
  · rw [if_pos g7] at h
    refine bk_zf tb_c_206_0 rfl (pc' := 68) rfl (t := 72) rfl (cm_ne_f g7) ?_
    refine bk_b (q := (92, [(5, .int s0), (0, .ref 135), (1, .int l1), (3, .int l3), (4, .int l4)], [.int (0 : Int32)])) tb_c_206_0 mx_206 2 rfl ?_
    exact go_lv (ls_sc rfl rfl (ls_sc rfl rfl (ls_sc rfl rfl (ls_sc rfl rfl (ls_sc rfl rfl ls_nil))))) (sn_Mo_run_92 h)
  · rw [if_neg g7] at h
    refine bk_zt tb_c_206_0 rfl (pc' := 72) rfl (cm_ne_t g7) ?_
    refine bk_b (q := (73, [(5, .int s0), (0, .ref 135), (1, .int l1), (3, .int l3), (4, .int l4)], [.int l1])) tb_c_206_1 mx_206 1 rfl ?_
    by_cases g8 : l1 = 0
    · rw [if_pos g8] at h
      refine bk_zt tb_c_206_1 rfl (pc' := 85) rfl (cm_eq_t g8) ?_
      refine bk_b (q := (86, [(5, .int s0), (0, .ref 135), (1, .int l1), (3, .int l3), (4, .int l4)], [.ref 135])) tb_c_206_1 mx_206 1 rfl ?_
      refine bk_gc tb_c_206_1 rfl rfl (ci := 11) (k := 12) rfl rfl rfl ?_
      refine bk_b (q := (91, [(5, .int s0), (0, .ref 135), (1, .int l1), (3, .int l3), (4, .int l4)], [.int s0, .ref 138])) tb_c_206_1 mx_206 1 rfl ?_
      by_cases g9 : s0 < 0 ∨ 96 ≤ s0.toNatClampNeg
      · rw [if_pos g9] at h; cases h
      · rw [if_neg g9] at h
        refine bk_a4 tb_c_206_1 rfl rfl rfl g9 ?_
        exact go_lv (ls_sc rfl rfl (ls_sc rfl rfl (ls_sc rfl rfl (ls_sc rfl rfl (ls_sc rfl rfl ls_nil))))) (sn_Mo_run_92 h)
    · rw [if_neg g8] at h
      refine bk_zf tb_c_206_1 rfl (pc' := 76) rfl (t := 85) rfl (cm_eq_f g8) ?_
      refine bk_b (q := (79, [(5, .int s0), (0, .ref 135), (1, .int l1), (3, .int l3), (4, .int l4)], [.int s0, .ref 135])) tb_c_206_1 mx_206 2 rfl ?_
      obtain ⟨x37, S36, c38, h⟩ := wd_cx h
      refine bk_kv tb_c_206_1 rfl rfl rfl rfl rfl (ci := 11) rfl rfl (ev_up (Nat.le_of_ble_eq_true rfl) (sn_Mo_leftOf c38)) ?_
      refine bk_b (q := (92, [(5, .int s0), (0, .ref 135), (1, .int l1), (3, .int l3), (4, .int l4)], [.int x37])) tb_c_206_1 mx_206 1 rfl ?_
      exact go_lv (ls_sc rfl rfl (ls_sc rfl rfl (ls_sc rfl rfl (ls_sc rfl rfl (ls_sc rfl rfl ls_nil))))) (sn_Mo_run_92 h)
noncomputable def fn_Mo_run_25 (l1 : Int32) (l2 : Int32) (l3 : Int32) (s0 : Int32) (S : wd_S) : Option (Int32 × wd_S) :=
  (if s0 = 0 then
    fn_Mo_run_61 l1 l3 s0 (0 : Int32) S
  else
    (if l1 = 0 then
      fn_Mo_run_61 l1 l3 s0 (((48 : Int32) * (S.1 135 42)) + l2) S
    else
      fn_Mo_run_61 l1 l3 s0 (((80 : Int32) * (S.1 135 63)) + l2) S))
set_option maxRecDepth 100000 in
theorem sn_Mo_run_25 {L : Nat} {xs : Nat → Int32} {l1 : Int32} {l2 : Int32} {l3 : Int32} {s0 : Int32} {S : wd_S} {x : Int32} {S' : wd_S} (h : fn_Mo_run_25 l1 l2 l3 s0 S = some (x, S')) : go_r tb_P L xs 3 206 25 [(0, .ref 135), (1, .int l1), (2, .int l2), (3, .int l3)] [.int s0] (wd_k S) (.inl (some (.int x)), wd_k S') := by
  unfold fn_Mo_run_25 at h
  refine bk_b (q := (29, [(4, .int s0), (0, .ref 135), (1, .int l1), (2, .int l2), (3, .int l3)], [.int s0])) tb_c_206_0 mx_206 2 rfl ?_
  by_cases g5 : s0 = 0
  · rw [if_pos g5] at h
    refine bk_zf tb_c_206_0 rfl (pc' := 32) rfl (t := 36) rfl (cm_ne_f g5) ?_
    refine bk_b (q := (61, [(4, .int s0), (0, .ref 135), (1, .int l1), (2, .int l2), (3, .int l3)], [.int (0 : Int32)])) tb_c_206_0 mx_206 2 rfl ?_
    exact go_lv (ls_sc rfl rfl (ls_sc rfl rfl (ls_sc rfl rfl (ls_sc rfl rfl ls_nil)))) (sn_Mo_run_61 h)
  · rw [if_neg g5] at h
    refine bk_zt tb_c_206_0 rfl (pc' := 36) rfl (cm_ne_t g5) ?_
    refine bk_b (q := (37, [(4, .int s0), (0, .ref 135), (1, .int l1), (2, .int l2), (3, .int l3)], [.int l1])) tb_c_206_0 mx_206 1 rfl ?_
    by_cases g6 : l1 = 0
    · rw [if_pos g6] at h
      refine bk_zt tb_c_206_0 rfl (pc' := 52) rfl (cm_eq_t g6) ?_
      refine bk_b (q := (55, [(4, .int s0), (0, .ref 135), (1, .int l1), (2, .int l2), (3, .int l3)], [.ref 135, .int (48 : Int32)])) tb_c_206_0 mx_206 2 rfl ?_
      refine bk_gi tb_c_206_0 rfl rfl (ci := 11) (k := 42) rfl rfl rfl ?_
      refine bk_b (q := (61, [(4, .int s0), (0, .ref 135), (1, .int l1), (2, .int l2), (3, .int l3)], [.int (((48 : Int32) * (S.1 135 42)) + l2)])) tb_c_206_0 mx_206 3 rfl ?_
      exact go_lv (ls_sc rfl rfl (ls_sc rfl rfl (ls_sc rfl rfl (ls_sc rfl rfl ls_nil)))) (sn_Mo_run_61 h)
    · rw [if_neg g6] at h
      refine bk_zf tb_c_206_0 rfl (pc' := 40) rfl (t := 52) rfl (cm_eq_f g6) ?_
      refine bk_b (q := (43, [(4, .int s0), (0, .ref 135), (1, .int l1), (2, .int l2), (3, .int l3)], [.ref 135, .int (80 : Int32)])) tb_c_206_0 mx_206 2 rfl ?_
      refine bk_gi tb_c_206_0 rfl rfl (ci := 11) (k := 63) rfl rfl rfl ?_
      refine bk_b (q := (61, [(4, .int s0), (0, .ref 135), (1, .int l1), (2, .int l2), (3, .int l3)], [.int (((80 : Int32) * (S.1 135 63)) + l2)])) tb_c_206_0 mx_206 4 rfl ?_
      exact go_lv (ls_sc rfl rfl (ls_sc rfl rfl (ls_sc rfl rfl (ls_sc rfl rfl ls_nil)))) (sn_Mo_run_61 h)
/-- SpecialiserModel.run(ZII)I -/
noncomputable def fn_Mo_run (p1 : Int32) (p2 : Int32) (p3 : Int32) (S : wd_S) : Option (Int32 × wd_S) :=
  (if p1 = 0 then
    (wd_c (fn_Mo_isFn p2 S) fun x3 S2 =>
    fn_Mo_run_25 p1 p2 p3 x3 S2)
  else
    (wd_c (fn_Mo_within ((p2).toInt64) (0 : Int64) ((((S.1 135 59) - (1 : Int32))).toInt64) S) fun x40 S39 =>
    fn_Mo_run_25 p1 p2 p3 x40 S39))
set_option maxRecDepth 100000 in
theorem sn_Mo_run {L : Nat} {xs : Nat → Int32} {p1 : Int32} {p2 : Int32} {p3 : Int32} {S : wd_S} {x : Int32} {S' : wd_S} (h : fn_Mo_run p1 p2 p3 S = some (x, S')) : ev_r tb_P L xs (3 + 1) 206 [.ref 135, .int p1, .int p2, .int p3] (wd_k S) (.inl (some (.int x)), wd_k S') := by
  unfold fn_Mo_run at h
  refine ev_of (Nat.le_of_ble_eq_true rfl) ?_
  show go_r tb_P L xs 3 206 0 [(0, .ref 135), (1, .int p1), (2, .int p2), (3, .int p3)] [] (wd_k S) (.inl (some (.int x)), wd_k S')
  refine bk_b (q := (1, [(0, .ref 135), (1, .int p1), (2, .int p2), (3, .int p3)], [.int p1])) tb_c_206_0 mx_206 1 rfl ?_
  by_cases g1 : p1 = 0
  · rw [if_pos g1] at h
    refine bk_zt tb_c_206_0 rfl (pc' := 20) rfl (cm_eq_t g1) ?_
    refine bk_b (q := (22, [(0, .ref 135), (1, .int p1), (2, .int p2), (3, .int p3)], [.int p2, .ref 135])) tb_c_206_0 mx_206 2 rfl ?_
    obtain ⟨x3, S2, c4, h⟩ := wd_cx h
    refine bk_kv tb_c_206_0 rfl rfl rfl rfl rfl (ci := 11) rfl rfl (ev_up (Nat.le_of_ble_eq_true rfl) (sn_Mo_isFn c4)) ?_
    exact go_lv (ls_sc rfl rfl (ls_sc rfl rfl (ls_sc rfl rfl (ls_sc rfl rfl ls_nil)))) (sn_Mo_run_25 h)
  · rw [if_neg g1] at h
    refine bk_zf tb_c_206_0 rfl (pc' := 4) rfl (t := 20) rfl (cm_eq_f g1) ?_
    refine bk_b (q := (8, [(0, .ref 135), (1, .int p1), (2, .int p2), (3, .int p3)], [.ref 135, .long (0 : Int64), .long ((p2).toInt64)])) tb_c_206_0 mx_206 4 rfl ?_
    refine bk_gi tb_c_206_0 rfl rfl (ci := 11) (k := 59) rfl rfl rfl ?_
    refine bk_b (q := (14, [(0, .ref 135), (1, .int p1), (2, .int p2), (3, .int p3)], [.long ((((S.1 135 59) - (1 : Int32))).toInt64), .long (0 : Int64), .long ((p2).toInt64)])) tb_c_206_0 mx_206 3 rfl ?_
    obtain ⟨x40, S39, c41, h⟩ := wd_cx h
    refine bk_ks tb_c_206_0 rfl rfl rfl (by decide) rfl rfl (ev_up (Nat.le_of_ble_eq_true rfl) (sn_Mo_within c41)) ?_
    refine bk_b (q := (25, [(0, .ref 135), (1, .int p1), (2, .int p2), (3, .int p3)], [.int x40])) tb_c_206_0 mx_206 1 rfl ?_
    exact go_lv (ls_sc rfl rfl (ls_sc rfl rfl (ls_sc rfl rfl (ls_sc rfl rfl ls_nil)))) (sn_Mo_run_25 h)
