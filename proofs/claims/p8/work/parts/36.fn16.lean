/-! Methods as functions: printed by wip/whole/gen_fn.py. -/
theorem mx_171 : mi_mx tb_P 171 = 5 := rfl
noncomputable def fn_Mo_onRest_261 (S : wd_S) : Option wd_S :=
  some S
set_option maxRecDepth 100000 in
theorem sn_Mo_onRest_261 {L : Nat} {xs : Nat → Int32} {S : wd_S} {S' : wd_S} (h : fn_Mo_onRest_261  S = some S') : go_r tb_P L xs 6 171 261 [] [] (wd_k S) (.inl none, wd_k S') := by
  unfold fn_Mo_onRest_261 at h
  cases h
  exact bk_t tb_c_171_3 rfl rfl
noncomputable def fn_Mo_onRest_210 : Nat → Int32 → Int32 → Int32 → wd_S → Option wd_S
  | 0, _, _, _, _ => none
  | n + 1, l2, l3, l4, S =>
    (if l4 < (S.1 135 30) then
      (if l4 < 0 ∨ 1600 ≤ l4.toNatClampNeg then none else
      (if (S.1 135 28) < 0 ∨ 15010 ≤ (S.1 135 28).toNatClampNeg then none else
      (wd_b (wd_i S 149 (S.1 135 28).toNatClampNeg (S.1 151 l4.toNatClampNeg)) fun S20 =>
      (wd_b (wd_i S20 135 28 ((S20.1 135 28) + (1 : Int32))) fun S21 =>
      fn_Mo_onRest_210 n l2 l3 (l4 + (1 : Int32)) S21))))
    else
      (wd_b (wd_i S 135 30 l3) fun S14 =>
      (wd_d (fn_Mo_keep l2 S14) fun S15 =>
      fn_Mo_onRest_261  S15)))
set_option maxRecDepth 100000 in
theorem sn_Mo_onRest_210 {L : Nat} {xs : Nat → Int32} : ∀ (n : Nat) {l2 : Int32} {l3 : Int32} {l4 : Int32} {S : wd_S} {S' : wd_S}, fn_Mo_onRest_210 n l2 l3 l4 S = some S' → go_r tb_P L xs 6 171 210 [(0, .ref 135), (2, .int l2), (3, .int l3), (4, .int l4)] [] (wd_k S) (.inl none, wd_k S') := by
  intro n
  induction n with
  | zero => intro l2 l3 l4 S S'  h; cases h
  | succ n ih =>
    intro l2 l3 l4 S S'  h
    rw [fn_Mo_onRest_210] at h
    refine bk_b (q := (213, [(0, .ref 135), (2, .int l2), (3, .int l3), (4, .int l4)], [.ref 135, .int l4])) tb_c_171_2 mx_171 2 rfl ?_
    refine bk_gi tb_c_171_2 rfl rfl (ci := 11) (k := 30) rfl rfl rfl ?_
    by_cases g13 : l4 < (S.1 135 30)
    · rw [if_pos g13] at h
      refine bk_jf tb_c_171_2 rfl (pc' := 219) rfl (t := 251) rfl (cm_ge_f g13) ?_
      refine bk_b (q := (220, [(0, .ref 135), (2, .int l2), (3, .int l3), (4, .int l4)], [.ref 135])) tb_c_171_2 mx_171 1 rfl ?_
      refine bk_gc tb_c_171_2 rfl rfl (ci := 11) (k := 23) rfl rfl rfl ?_
      refine bk_b (q := (224, [(0, .ref 135), (2, .int l2), (3, .int l3), (4, .int l4)], [.ref 135, .ref 149])) tb_c_171_2 mx_171 1 rfl ?_
      refine bk_gi tb_c_171_2 rfl rfl (ci := 11) (k := 28) rfl rfl rfl ?_
      refine bk_b (q := (228, [(0, .ref 135), (2, .int l2), (3, .int l3), (4, .int l4)], [.ref 135, .int (S.1 135 28), .ref 149])) tb_c_171_2 mx_171 1 rfl ?_
      refine bk_gc tb_c_171_2 rfl rfl (ci := 11) (k := 29) rfl rfl rfl ?_
      refine bk_b (q := (233, [(0, .ref 135), (2, .int l2), (3, .int l3), (4, .int l4)], [.int l4, .ref 151, .int (S.1 135 28), .ref 149])) tb_c_171_2 mx_171 1 rfl ?_
      by_cases g18 : l4 < 0 ∨ 1600 ≤ l4.toNatClampNeg
      · rw [if_pos g18] at h; cases h
      · rw [if_neg g18] at h
        refine bk_a4 tb_c_171_2 rfl rfl rfl g18 ?_
        by_cases g19 : (S.1 135 28) < 0 ∨ 15010 ≤ (S.1 135 28).toNatClampNeg
        · rw [if_pos g19] at h; cases h
        · rw [if_neg g19] at h
          obtain ⟨S20, eS20, h⟩ := wd_bx h
          refine bk_s4 tb_c_171_2 rfl rfl rfl g19 ?_
          rw [eS20]
          refine bk_b (q := (237, [(0, .ref 135), (2, .int l2), (3, .int l3), (4, .int l4)], [.ref 135, .ref 135])) tb_c_171_2 mx_171 2 rfl ?_
          refine bk_gi tb_c_171_2 rfl rfl (ci := 11) (k := 28) rfl rfl rfl ?_
          refine bk_b (q := (242, [(0, .ref 135), (2, .int l2), (3, .int l3), (4, .int l4)], [.int ((S20.1 135 28) + (1 : Int32)), .ref 135])) tb_c_171_2 mx_171 2 rfl ?_
          obtain ⟨S21, eS21, h⟩ := wd_bx h
          refine bk_pi tb_c_171_2 rfl rfl (ci := 11) (k := 28) rfl rfl rfl rfl ?_
          rw [eS21]
          refine bk_b (q := (210, [(4, .int (l4 + (1 : Int32))), (0, .ref 135), (2, .int l2), (3, .int l3)], [])) tb_c_171_2 mx_171 2 rfl ?_
          exact go_lv (ls_sc rfl rfl (ls_sc rfl rfl (ls_sc rfl rfl (ls_sc rfl rfl ls_nil)))) (ih h)
    · rw [if_neg g13] at h
      refine bk_jt tb_c_171_2 rfl (pc' := 251) rfl (cm_ge_t g13) ?_
      refine bk_b (q := (253, [(0, .ref 135), (2, .int l2), (3, .int l3), (4, .int l4)], [.int l3, .ref 135])) tb_c_171_2 mx_171 2 rfl ?_
      obtain ⟨S14, eS14, h⟩ := wd_bx h
      refine bk_pi tb_c_171_2 rfl rfl (ci := 11) (k := 30) rfl rfl rfl rfl ?_
      rw [eS14]
      refine bk_b (q := (258, [(0, .ref 135), (2, .int l2), (3, .int l3), (4, .int l4)], [.int l2, .ref 135])) tb_c_171_2 mx_171 2 rfl ?_
      obtain ⟨S15, c17, h⟩ := wd_dx h
      refine bk_kv tb_c_171_2 rfl rfl rfl rfl rfl (ci := 11) rfl rfl (ev_up (Nat.le_of_ble_eq_true rfl) (sn_Mo_keep c17)) ?_
      exact go_lv ls_nil (sn_Mo_onRest_261 h)
/-- SpecialiserModel.onRest(II)V -/
noncomputable def fn_Mo_onRest (p1 : Int32) (p2 : Int32) (S : wd_S) : Option wd_S :=
  (if p1 = (13 : Int32) then
    (wd_c (fn_Mo_name (0 : Int32) S) fun x3 S2 =>
    (if p2 < 0 ∨ 15010 ≤ p2.toNatClampNeg then none else
    (wd_b (wd_i S2 146 p2.toNatClampNeg x3) fun S6 =>
    fn_Mo_onRest_261  S6)))
  else
  (if p1 = (14 : Int32) then
    (if p2 < 0 ∨ 15010 ≤ p2.toNatClampNeg then none else
    (if p2 < 0 ∨ 15010 ≤ p2.toNatClampNeg then none else
    (wd_b (wd_i S 144 p2.toNatClampNeg (S.1 135 28)) fun S10 =>
    (if p2 < 0 ∨ 15010 ≤ p2.toNatClampNeg then none else
    (wd_b (wd_i S10 145 p2.toNatClampNeg ((S10.1 135 30) - (S.1 145 p2.toNatClampNeg))) fun S12 =>
    fn_Mo_onRest_210 wd_F p2 (S.1 145 p2.toNatClampNeg) (S.1 145 p2.toNatClampNeg) S12)))))
  else
  (if p1 = (15 : Int32) then
    (wd_c (fn_Mo_last  S) fun x24 S23 =>
    (if p2 < 0 ∨ 15010 ≤ p2.toNatClampNeg then none else
    (wd_b (wd_i S23 144 p2.toNatClampNeg x24) fun S27 =>
    fn_Mo_onRest_261  S27)))
  else
  (if p1 = (16 : Int32) then
    (wd_c (fn_Mo_last  S) fun x30 S29 =>
    (if p2 < 0 ∨ 15010 ≤ p2.toNatClampNeg then none else
    (wd_b (wd_i S29 145 p2.toNatClampNeg x30) fun S33 =>
    fn_Mo_onRest_261  S33)))
  else
  (if p1 = (17 : Int32) then
    (wd_c (fn_Mo_last  S) fun x36 S35 =>
    (if p2 < 0 ∨ 15010 ≤ p2.toNatClampNeg then none else
    (wd_b (wd_i S35 146 p2.toNatClampNeg x36) fun S39 =>
    fn_Mo_onRest_261  S39)))
  else
  (if p1 = (18 : Int32) then
    (wd_d (fn_Mo_keep p2 S) fun S41 =>
    fn_Mo_onRest_261  S41)
  else
  (if p1 = (19 : Int32) then
    (if p2 < 0 ∨ 15010 ≤ p2.toNatClampNeg then none else
    (if p2 < 0 ∨ 15010 ≤ p2.toNatClampNeg then none else
    (wd_b (wd_i S 144 p2.toNatClampNeg (S.1 135 28)) fun S47 =>
    (if p2 < 0 ∨ 15010 ≤ p2.toNatClampNeg then none else
    (wd_b (wd_i S47 145 p2.toNatClampNeg ((S47.1 135 30) - (S.1 145 p2.toNatClampNeg))) fun S49 =>
    fn_Mo_onRest_210 wd_F p2 (S.1 145 p2.toNatClampNeg) (S.1 145 p2.toNatClampNeg) S49)))))
  else
  (if p1 = (20 : Int32) then
    (wd_c (fn_Mo_last  S) fun x52 S51 =>
    (if (S.1 135 30) < 0 ∨ 1600 ≤ (S.1 135 30).toNatClampNeg then none else
    (wd_b (wd_i S51 151 (S.1 135 30).toNatClampNeg x52) fun S55 =>
    (wd_b (wd_i S55 135 30 ((S55.1 135 30) + (1 : Int32))) fun S56 =>
    (if (S56.1 135 4) = (16 : Int32) then
      (wd_d (fn_Mo_push (20 : Int32) p2 S56) fun S64 =>
      (wd_d (fn_Mo_push (4 : Int32) (0 : Int32) S64) fun S67 =>
      (wd_d (fn_Mo_pass  S67) fun S70 =>
      fn_Mo_onRest_261  S70)))
    else
      (wd_d (fn_Mo_push (21 : Int32) p2 S56) fun S58 =>
      (wd_d (fn_Mo_push (1 : Int32) (15 : Int32) S58) fun S61 =>
      fn_Mo_onRest_261  S61)))))))
  else
  (if p2 < 0 ∨ 15010 ≤ p2.toNatClampNeg then none else
  (if p2 < 0 ∨ 15010 ≤ p2.toNatClampNeg then none else
  (wd_b (wd_i S 144 p2.toNatClampNeg (S.1 135 28)) fun S75 =>
  (if p2 < 0 ∨ 15010 ≤ p2.toNatClampNeg then none else
  (wd_b (wd_i S75 145 p2.toNatClampNeg ((S75.1 135 30) - (S.1 145 p2.toNatClampNeg))) fun S77 =>
  fn_Mo_onRest_210 wd_F p2 (S.1 145 p2.toNatClampNeg) (S.1 145 p2.toNatClampNeg) S77)))))))))))))
set_option maxRecDepth 100000 in
theorem sn_Mo_onRest {L : Nat} {xs : Nat → Int32} {p1 : Int32} {p2 : Int32} {S : wd_S} {S' : wd_S} (h : fn_Mo_onRest p1 p2 S = some S') : ev_r tb_P L xs (6 + 1) 171 [.ref 135, .int p1, .int p2] (wd_k S) (.inl none, wd_k S') := by
  unfold fn_Mo_onRest at h
  refine ev_of (Nat.le_of_ble_eq_true rfl) ?_
  show go_r tb_P L xs 6 171 0 [(0, .ref 135), (1, .int p1), (2, .int p2)] [] (wd_k S) (.inl none, wd_k S')
  refine bk_b (q := (1, [(0, .ref 135), (1, .int p1), (2, .int p2)], [.int p1])) tb_c_171_0 mx_171 1 rfl ?_
  by_cases g1 : p1 = (13 : Int32)
  · rw [if_pos g1] at h
    refine bk_sw tb_c_171_0 rfl (pc' := 48) (by rw [g1]; rfl) ?_
    refine bk_b (q := (49, [(0, .ref 135), (1, .int p1), (2, .int p2)], [.ref 135])) tb_c_171_0 mx_171 1 rfl ?_
    refine bk_gc tb_c_171_0 rfl rfl (ci := 11) (k := 20) rfl rfl rfl ?_
    refine bk_b (q := (55, [(0, .ref 135), (1, .int p1), (2, .int p2)], [.int (0 : Int32), .ref 135, .int p2, .ref 146])) tb_c_171_0 mx_171 3 rfl ?_
    obtain ⟨x3, S2, c4, h⟩ := wd_cx h
    refine bk_kv tb_c_171_0 rfl rfl rfl rfl rfl (ci := 11) rfl rfl (ev_up (Nat.le_of_ble_eq_true rfl) (sn_Mo_name c4)) ?_
    by_cases g5 : p2 < 0 ∨ 15010 ≤ p2.toNatClampNeg
    · rw [if_pos g5] at h; cases h
    · rw [if_neg g5] at h
      obtain ⟨S6, eS6, h⟩ := wd_bx h
      refine bk_s4 tb_c_171_0 rfl rfl rfl g5 ?_
      rw [eS6]
      refine bk_b (q := (261, [(0, .ref 135), (1, .int p1), (2, .int p2)], [])) tb_c_171_0 mx_171 1 rfl ?_
      exact go_lv ls_nil (sn_Mo_onRest_261 h)
  · rw [if_neg g1] at h
    by_cases g7 : p1 = (14 : Int32)
    · rw [if_pos g7] at h
      refine bk_sw tb_c_171_0 rfl (pc' := 178) (by rw [g7]; rfl) ?_
      refine bk_b (q := (179, [(0, .ref 135), (1, .int p1), (2, .int p2)], [.ref 135])) tb_c_171_1 mx_171 1 rfl ?_
      refine bk_gc tb_c_171_1 rfl rfl (ci := 11) (k := 19) rfl rfl rfl ?_
      refine bk_b (q := (183, [(0, .ref 135), (1, .int p1), (2, .int p2)], [.int p2, .ref 145])) tb_c_171_1 mx_171 1 rfl ?_
      by_cases g8 : p2 < 0 ∨ 15010 ≤ p2.toNatClampNeg
      · rw [if_pos g8] at h; cases h
      · rw [if_neg g8] at h
        refine bk_a4 tb_c_171_1 rfl rfl rfl g8 ?_
        refine bk_b (q := (186, [(3, .int (S.1 145 p2.toNatClampNeg)), (0, .ref 135), (1, .int p1), (2, .int p2)], [.ref 135])) tb_c_171_1 mx_171 2 rfl ?_
        refine bk_gc tb_c_171_1 rfl rfl (ci := 11) (k := 18) rfl rfl rfl ?_
        refine bk_b (q := (190, [(3, .int (S.1 145 p2.toNatClampNeg)), (0, .ref 135), (1, .int p1), (2, .int p2)], [.int p2, .ref 144])) tb_c_171_1 mx_171 1 rfl ?_
        refine bk_b (q := (191, [(3, .int (S.1 145 p2.toNatClampNeg)), (0, .ref 135), (1, .int p1), (2, .int p2)], [.ref 135, .int p2, .ref 144])) tb_c_171_2 mx_171 1 rfl ?_
        refine bk_gi tb_c_171_2 rfl rfl (ci := 11) (k := 28) rfl rfl rfl ?_
        by_cases g9 : p2 < 0 ∨ 15010 ≤ p2.toNatClampNeg
        · rw [if_pos g9] at h; cases h
        · rw [if_neg g9] at h
          obtain ⟨S10, eS10, h⟩ := wd_bx h
          refine bk_s4 tb_c_171_2 rfl rfl rfl g9 ?_
          rw [eS10]
          refine bk_b (q := (196, [(3, .int (S.1 145 p2.toNatClampNeg)), (0, .ref 135), (1, .int p1), (2, .int p2)], [.ref 135])) tb_c_171_2 mx_171 1 rfl ?_
          refine bk_gc tb_c_171_2 rfl rfl (ci := 11) (k := 19) rfl rfl rfl ?_
          refine bk_b (q := (201, [(3, .int (S.1 145 p2.toNatClampNeg)), (0, .ref 135), (1, .int p1), (2, .int p2)], [.ref 135, .int p2, .ref 145])) tb_c_171_2 mx_171 2 rfl ?_
          refine bk_gi tb_c_171_2 rfl rfl (ci := 11) (k := 30) rfl rfl rfl ?_
          refine bk_b (q := (206, [(3, .int (S.1 145 p2.toNatClampNeg)), (0, .ref 135), (1, .int p1), (2, .int p2)], [.int ((S10.1 135 30) - (S.1 145 p2.toNatClampNeg)), .int p2, .ref 145])) tb_c_171_2 mx_171 2 rfl ?_
          by_cases g11 : p2 < 0 ∨ 15010 ≤ p2.toNatClampNeg
          · rw [if_pos g11] at h; cases h
          · rw [if_neg g11] at h
            obtain ⟨S12, eS12, h⟩ := wd_bx h
            refine bk_s4 tb_c_171_2 rfl rfl rfl g11 ?_
            rw [eS12]
            refine bk_b (q := (210, [(4, .int (S.1 145 p2.toNatClampNeg)), (3, .int (S.1 145 p2.toNatClampNeg)), (0, .ref 135), (1, .int p1), (2, .int p2)], [])) tb_c_171_2 mx_171 2 rfl ?_
            exact go_lv (ls_sc rfl rfl (ls_sc rfl rfl (ls_sc rfl rfl (ls_sc rfl rfl ls_nil)))) (sn_Mo_onRest_210 wd_F h)
    · rw [if_neg g7] at h
      by_cases g22 : p1 = (15 : Int32)
      · rw [if_pos g22] at h
        refine bk_sw tb_c_171_0 rfl (pc' := 62) (by rw [g22]; rfl) ?_
        refine bk_b (q := (63, [(0, .ref 135), (1, .int p1), (2, .int p2)], [.ref 135])) tb_c_171_0 mx_171 1 rfl ?_
        refine bk_gc tb_c_171_0 rfl rfl (ci := 11) (k := 18) rfl rfl rfl ?_
        refine bk_b (q := (68, [(0, .ref 135), (1, .int p1), (2, .int p2)], [.ref 135, .int p2, .ref 144])) tb_c_171_0 mx_171 2 rfl ?_
        obtain ⟨x24, S23, c25, h⟩ := wd_cx h
        refine bk_kv tb_c_171_0 rfl rfl rfl rfl rfl (ci := 11) rfl rfl (ev_up (Nat.le_of_ble_eq_true rfl) (sn_Mo_last c25)) ?_
        by_cases g26 : p2 < 0 ∨ 15010 ≤ p2.toNatClampNeg
        · rw [if_pos g26] at h; cases h
        · rw [if_neg g26] at h
          obtain ⟨S27, eS27, h⟩ := wd_bx h
          refine bk_s4 tb_c_171_0 rfl rfl rfl g26 ?_
          rw [eS27]
          refine bk_b (q := (261, [(0, .ref 135), (1, .int p1), (2, .int p2)], [])) tb_c_171_0 mx_171 1 rfl ?_
          exact go_lv ls_nil (sn_Mo_onRest_261 h)
      · rw [if_neg g22] at h
        by_cases g28 : p1 = (16 : Int32)
        · rw [if_pos g28] at h
          refine bk_sw tb_c_171_0 rfl (pc' := 75) (by rw [g28]; rfl) ?_
          refine bk_b (q := (76, [(0, .ref 135), (1, .int p1), (2, .int p2)], [.ref 135])) tb_c_171_0 mx_171 1 rfl ?_
          refine bk_gc tb_c_171_0 rfl rfl (ci := 11) (k := 19) rfl rfl rfl ?_
          refine bk_b (q := (81, [(0, .ref 135), (1, .int p1), (2, .int p2)], [.ref 135, .int p2, .ref 145])) tb_c_171_0 mx_171 2 rfl ?_
          obtain ⟨x30, S29, c31, h⟩ := wd_cx h
          refine bk_kv tb_c_171_0 rfl rfl rfl rfl rfl (ci := 11) rfl rfl (ev_up (Nat.le_of_ble_eq_true rfl) (sn_Mo_last c31)) ?_
          by_cases g32 : p2 < 0 ∨ 15010 ≤ p2.toNatClampNeg
          · rw [if_pos g32] at h; cases h
          · rw [if_neg g32] at h
            obtain ⟨S33, eS33, h⟩ := wd_bx h
            refine bk_s4 tb_c_171_0 rfl rfl rfl g32 ?_
            rw [eS33]
            refine bk_b (q := (261, [(0, .ref 135), (1, .int p1), (2, .int p2)], [])) tb_c_171_0 mx_171 1 rfl ?_
            exact go_lv ls_nil (sn_Mo_onRest_261 h)
        · rw [if_neg g28] at h
          by_cases g34 : p1 = (17 : Int32)
          · rw [if_pos g34] at h
            refine bk_sw tb_c_171_0 rfl (pc' := 88) (by rw [g34]; rfl) ?_
            refine bk_b (q := (89, [(0, .ref 135), (1, .int p1), (2, .int p2)], [.ref 135])) tb_c_171_0 mx_171 1 rfl ?_
            refine bk_gc tb_c_171_0 rfl rfl (ci := 11) (k := 20) rfl rfl rfl ?_
            refine bk_b (q := (94, [(0, .ref 135), (1, .int p1), (2, .int p2)], [.ref 135, .int p2, .ref 146])) tb_c_171_0 mx_171 2 rfl ?_
            obtain ⟨x36, S35, c37, h⟩ := wd_cx h
            refine bk_kv tb_c_171_0 rfl rfl rfl rfl rfl (ci := 11) rfl rfl (ev_up (Nat.le_of_ble_eq_true rfl) (sn_Mo_last c37)) ?_
            by_cases g38 : p2 < 0 ∨ 15010 ≤ p2.toNatClampNeg
            · rw [if_pos g38] at h; cases h
            · rw [if_neg g38] at h
              obtain ⟨S39, eS39, h⟩ := wd_bx h
              refine bk_s4 tb_c_171_0 rfl rfl rfl g38 ?_
              rw [eS39]
              refine bk_b (q := (261, [(0, .ref 135), (1, .int p1), (2, .int p2)], [])) tb_c_171_0 mx_171 1 rfl ?_
              exact go_lv ls_nil (sn_Mo_onRest_261 h)
          · rw [if_neg g34] at h
            by_cases g40 : p1 = (18 : Int32)
            · rw [if_pos g40] at h
              refine bk_sw tb_c_171_0 rfl (pc' := 101) (by rw [g40]; rfl) ?_
              refine bk_b (q := (103, [(0, .ref 135), (1, .int p1), (2, .int p2)], [.int p2, .ref 135])) tb_c_171_0 mx_171 2 rfl ?_
              obtain ⟨S41, c43, h⟩ := wd_dx h
              refine bk_kv tb_c_171_0 rfl rfl rfl rfl rfl (ci := 11) rfl rfl (ev_up (Nat.le_of_ble_eq_true rfl) (sn_Mo_keep c43)) ?_
              refine bk_b (q := (261, [(0, .ref 135), (1, .int p1), (2, .int p2)], [])) tb_c_171_0 mx_171 1 rfl ?_
              exact go_lv ls_nil (sn_Mo_onRest_261 h)
            · rw [if_neg g40] at h
              by_cases g44 : p1 = (19 : Int32)
              · rw [if_pos g44] at h
                refine bk_sw tb_c_171_0 rfl (pc' := 178) (by rw [g44]; rfl) ?_
                refine bk_b (q := (179, [(0, .ref 135), (1, .int p1), (2, .int p2)], [.ref 135])) tb_c_171_1 mx_171 1 rfl ?_
                refine bk_gc tb_c_171_1 rfl rfl (ci := 11) (k := 19) rfl rfl rfl ?_
                refine bk_b (q := (183, [(0, .ref 135), (1, .int p1), (2, .int p2)], [.int p2, .ref 145])) tb_c_171_1 mx_171 1 rfl ?_
                by_cases g45 : p2 < 0 ∨ 15010 ≤ p2.toNatClampNeg
                · rw [if_pos g45] at h; cases h
                · rw [if_neg g45] at h
                  refine bk_a4 tb_c_171_1 rfl rfl rfl g45 ?_
                  refine bk_b (q := (186, [(3, .int (S.1 145 p2.toNatClampNeg)), (0, .ref 135), (1, .int p1), (2, .int p2)], [.ref 135])) tb_c_171_1 mx_171 2 rfl ?_
                  refine bk_gc tb_c_171_1 rfl rfl (ci := 11) (k := 18) rfl rfl rfl ?_
                  refine bk_b (q := (190, [(3, .int (S.1 145 p2.toNatClampNeg)), (0, .ref 135), (1, .int p1), (2, .int p2)], [.int p2, .ref 144])) tb_c_171_1 mx_171 1 rfl ?_
                  refine bk_b (q := (191, [(3, .int (S.1 145 p2.toNatClampNeg)), (0, .ref 135), (1, .int p1), (2, .int p2)], [.ref 135, .int p2, .ref 144])) tb_c_171_2 mx_171 1 rfl ?_
                  refine bk_gi tb_c_171_2 rfl rfl (ci := 11) (k := 28) rfl rfl rfl ?_
                  by_cases g46 : p2 < 0 ∨ 15010 ≤ p2.toNatClampNeg
                  · rw [if_pos g46] at h; cases h
                  · rw [if_neg g46] at h
                    obtain ⟨S47, eS47, h⟩ := wd_bx h
                    refine bk_s4 tb_c_171_2 rfl rfl rfl g46 ?_
                    rw [eS47]
                    refine bk_b (q := (196, [(3, .int (S.1 145 p2.toNatClampNeg)), (0, .ref 135), (1, .int p1), (2, .int p2)], [.ref 135])) tb_c_171_2 mx_171 1 rfl ?_
                    refine bk_gc tb_c_171_2 rfl rfl (ci := 11) (k := 19) rfl rfl rfl ?_
                    refine bk_b (q := (201, [(3, .int (S.1 145 p2.toNatClampNeg)), (0, .ref 135), (1, .int p1), (2, .int p2)], [.ref 135, .int p2, .ref 145])) tb_c_171_2 mx_171 2 rfl ?_
                    refine bk_gi tb_c_171_2 rfl rfl (ci := 11) (k := 30) rfl rfl rfl ?_
                    refine bk_b (q := (206, [(3, .int (S.1 145 p2.toNatClampNeg)), (0, .ref 135), (1, .int p1), (2, .int p2)], [.int ((S47.1 135 30) - (S.1 145 p2.toNatClampNeg)), .int p2, .ref 145])) tb_c_171_2 mx_171 2 rfl ?_
                    by_cases g48 : p2 < 0 ∨ 15010 ≤ p2.toNatClampNeg
                    · rw [if_pos g48] at h; cases h
                    · rw [if_neg g48] at h
                      obtain ⟨S49, eS49, h⟩ := wd_bx h
                      refine bk_s4 tb_c_171_2 rfl rfl rfl g48 ?_
                      rw [eS49]
                      refine bk_b (q := (210, [(4, .int (S.1 145 p2.toNatClampNeg)), (3, .int (S.1 145 p2.toNatClampNeg)), (0, .ref 135), (1, .int p1), (2, .int p2)], [])) tb_c_171_2 mx_171 2 rfl ?_
                      exact go_lv (ls_sc rfl rfl (ls_sc rfl rfl (ls_sc rfl rfl (ls_sc rfl rfl ls_nil)))) (sn_Mo_onRest_210 wd_F h)
              · rw [if_neg g44] at h
                by_cases g50 : p1 = (20 : Int32)
                · rw [if_pos g50] at h
                  refine bk_sw tb_c_171_0 rfl (pc' := 109) (by rw [g50]; rfl) ?_
                  refine bk_b (q := (110, [(0, .ref 135), (1, .int p1), (2, .int p2)], [.ref 135])) tb_c_171_0 mx_171 1 rfl ?_
                  refine bk_gc tb_c_171_0 rfl rfl (ci := 11) (k := 29) rfl rfl rfl ?_
                  refine bk_b (q := (114, [(0, .ref 135), (1, .int p1), (2, .int p2)], [.ref 135, .ref 151])) tb_c_171_0 mx_171 1 rfl ?_
                  refine bk_gi tb_c_171_0 rfl rfl (ci := 11) (k := 30) rfl rfl rfl ?_
                  refine bk_b (q := (118, [(0, .ref 135), (1, .int p1), (2, .int p2)], [.ref 135, .int (S.1 135 30), .ref 151])) tb_c_171_0 mx_171 1 rfl ?_
                  obtain ⟨x52, S51, c53, h⟩ := wd_cx h
                  refine bk_kv tb_c_171_1 rfl rfl rfl rfl rfl (ci := 11) rfl rfl (ev_up (Nat.le_of_ble_eq_true rfl) (sn_Mo_last c53)) ?_
                  by_cases g54 : (S.1 135 30) < 0 ∨ 1600 ≤ (S.1 135 30).toNatClampNeg
                  · rw [if_pos g54] at h; cases h
                  · rw [if_neg g54] at h
                    obtain ⟨S55, eS55, h⟩ := wd_bx h
                    refine bk_s4 tb_c_171_1 rfl rfl rfl g54 ?_
                    rw [eS55]
                    refine bk_b (q := (124, [(0, .ref 135), (1, .int p1), (2, .int p2)], [.ref 135, .ref 135])) tb_c_171_1 mx_171 2 rfl ?_
                    refine bk_gi tb_c_171_1 rfl rfl (ci := 11) (k := 30) rfl rfl rfl ?_
                    refine bk_b (q := (129, [(0, .ref 135), (1, .int p1), (2, .int p2)], [.int ((S55.1 135 30) + (1 : Int32)), .ref 135])) tb_c_171_1 mx_171 2 rfl ?_
                    obtain ⟨S56, eS56, h⟩ := wd_bx h
                    refine bk_pi tb_c_171_1 rfl rfl (ci := 11) (k := 30) rfl rfl rfl rfl ?_
                    rw [eS56]
                    refine bk_b (q := (133, [(0, .ref 135), (1, .int p1), (2, .int p2)], [.ref 135])) tb_c_171_1 mx_171 1 rfl ?_
                    refine bk_gi tb_c_171_1 rfl rfl (ci := 11) (k := 4) rfl rfl rfl ?_
                    refine bk_b (q := (138, [(0, .ref 135), (1, .int p1), (2, .int p2)], [.int (16 : Int32), .int (S56.1 135 4)])) tb_c_171_1 mx_171 1 rfl ?_
                    by_cases g57 : (S56.1 135 4) = (16 : Int32)
                    · rw [if_pos g57] at h
                      refine bk_jf tb_c_171_1 rfl (pc' := 141) rfl (t := 161) rfl (cm_ne_f g57) ?_
                      refine bk_b (q := (145, [(0, .ref 135), (1, .int p1), (2, .int p2)], [.int p2, .int (20 : Int32), .ref 135])) tb_c_171_1 mx_171 3 rfl ?_
                      obtain ⟨S64, c66, h⟩ := wd_dx h
                      refine bk_kv tb_c_171_1 rfl rfl rfl rfl rfl (ci := 11) rfl rfl (ev_up (Nat.le_of_ble_eq_true rfl) (sn_Mo_push c66)) ?_
                      refine bk_b (q := (151, [(0, .ref 135), (1, .int p1), (2, .int p2)], [.int (0 : Int32), .int (4 : Int32), .ref 135])) tb_c_171_1 mx_171 3 rfl ?_
                      obtain ⟨S67, c69, h⟩ := wd_dx h
                      refine bk_kv tb_c_171_1 rfl rfl rfl rfl rfl (ci := 11) rfl rfl (ev_up (Nat.le_of_ble_eq_true rfl) (sn_Mo_push c69)) ?_
                      refine bk_b (q := (155, [(0, .ref 135), (1, .int p1), (2, .int p2)], [.ref 135])) tb_c_171_1 mx_171 1 rfl ?_
                      obtain ⟨S70, c72, h⟩ := wd_dx h
                      refine bk_kv tb_c_171_1 rfl rfl rfl rfl rfl (ci := 11) rfl rfl (ev_up (Nat.le_of_ble_eq_true rfl) (sn_Mo_pass c72)) ?_
                      refine bk_b (q := (261, [(0, .ref 135), (1, .int p1), (2, .int p2)], [])) tb_c_171_1 mx_171 1 rfl ?_
                      exact go_lv ls_nil (sn_Mo_onRest_261 h)
                    · rw [if_neg g57] at h
                      refine bk_jt tb_c_171_1 rfl (pc' := 161) rfl (cm_ne_t g57) ?_
                      refine bk_b (q := (165, [(0, .ref 135), (1, .int p1), (2, .int p2)], [.int p2, .int (21 : Int32), .ref 135])) tb_c_171_1 mx_171 3 rfl ?_
                      obtain ⟨S58, c60, h⟩ := wd_dx h
                      refine bk_kv tb_c_171_1 rfl rfl rfl rfl rfl (ci := 11) rfl rfl (ev_up (Nat.le_of_ble_eq_true rfl) (sn_Mo_push c60)) ?_
                      refine bk_b (q := (172, [(0, .ref 135), (1, .int p1), (2, .int p2)], [.int (15 : Int32), .int (1 : Int32), .ref 135])) tb_c_171_1 mx_171 3 rfl ?_
                      obtain ⟨S61, c63, h⟩ := wd_dx h
                      refine bk_kv tb_c_171_1 rfl rfl rfl rfl rfl (ci := 11) rfl rfl (ev_up (Nat.le_of_ble_eq_true rfl) (sn_Mo_push c63)) ?_
                      refine bk_b (q := (261, [(0, .ref 135), (1, .int p1), (2, .int p2)], [])) tb_c_171_1 mx_171 1 rfl ?_
                      exact go_lv ls_nil (sn_Mo_onRest_261 h)
                · rw [if_neg g50] at h
                  refine bk_sw tb_c_171_0 rfl (pc' := 178) (sw_t (t := 178) (fun i h1 h2 => ?_) rfl) ?_
                  · have hi : i = 13 ∨ i = 14 ∨ i = 15 ∨ i = 16 ∨ i = 17 ∨ i = 18 ∨ i = 19 ∨ i = 20 := by omega
                    rcases hi with rfl | rfl | rfl | rfl | rfl | rfl | rfl | rfl
                    · exact g1
                    · exact g7
                    · exact g22
                    · exact g28
                    · exact g34
                    · exact g40
                    · exact g44
                    · exact g50
                  · refine bk_b (q := (179, [(0, .ref 135), (1, .int p1), (2, .int p2)], [.ref 135])) tb_c_171_1 mx_171 1 rfl ?_
                    refine bk_gc tb_c_171_1 rfl rfl (ci := 11) (k := 19) rfl rfl rfl ?_
                    refine bk_b (q := (183, [(0, .ref 135), (1, .int p1), (2, .int p2)], [.int p2, .ref 145])) tb_c_171_1 mx_171 1 rfl ?_
                    by_cases g73 : p2 < 0 ∨ 15010 ≤ p2.toNatClampNeg
                    · rw [if_pos g73] at h; cases h
                    · rw [if_neg g73] at h
                      refine bk_a4 tb_c_171_1 rfl rfl rfl g73 ?_
                      refine bk_b (q := (186, [(3, .int (S.1 145 p2.toNatClampNeg)), (0, .ref 135), (1, .int p1), (2, .int p2)], [.ref 135])) tb_c_171_1 mx_171 2 rfl ?_
                      refine bk_gc tb_c_171_1 rfl rfl (ci := 11) (k := 18) rfl rfl rfl ?_
                      refine bk_b (q := (190, [(3, .int (S.1 145 p2.toNatClampNeg)), (0, .ref 135), (1, .int p1), (2, .int p2)], [.int p2, .ref 144])) tb_c_171_1 mx_171 1 rfl ?_
                      refine bk_b (q := (191, [(3, .int (S.1 145 p2.toNatClampNeg)), (0, .ref 135), (1, .int p1), (2, .int p2)], [.ref 135, .int p2, .ref 144])) tb_c_171_2 mx_171 1 rfl ?_
                      refine bk_gi tb_c_171_2 rfl rfl (ci := 11) (k := 28) rfl rfl rfl ?_
                      by_cases g74 : p2 < 0 ∨ 15010 ≤ p2.toNatClampNeg
                      · rw [if_pos g74] at h; cases h
                      · rw [if_neg g74] at h
                        obtain ⟨S75, eS75, h⟩ := wd_bx h
                        refine bk_s4 tb_c_171_2 rfl rfl rfl g74 ?_
                        rw [eS75]
                        refine bk_b (q := (196, [(3, .int (S.1 145 p2.toNatClampNeg)), (0, .ref 135), (1, .int p1), (2, .int p2)], [.ref 135])) tb_c_171_2 mx_171 1 rfl ?_
                        refine bk_gc tb_c_171_2 rfl rfl (ci := 11) (k := 19) rfl rfl rfl ?_
                        refine bk_b (q := (201, [(3, .int (S.1 145 p2.toNatClampNeg)), (0, .ref 135), (1, .int p1), (2, .int p2)], [.ref 135, .int p2, .ref 145])) tb_c_171_2 mx_171 2 rfl ?_
                        refine bk_gi tb_c_171_2 rfl rfl (ci := 11) (k := 30) rfl rfl rfl ?_
                        refine bk_b (q := (206, [(3, .int (S.1 145 p2.toNatClampNeg)), (0, .ref 135), (1, .int p1), (2, .int p2)], [.int ((S75.1 135 30) - (S.1 145 p2.toNatClampNeg)), .int p2, .ref 145])) tb_c_171_2 mx_171 2 rfl ?_
                        by_cases g76 : p2 < 0 ∨ 15010 ≤ p2.toNatClampNeg
                        · rw [if_pos g76] at h; cases h
                        · rw [if_neg g76] at h
                          obtain ⟨S77, eS77, h⟩ := wd_bx h
                          refine bk_s4 tb_c_171_2 rfl rfl rfl g76 ?_
                          rw [eS77]
                          refine bk_b (q := (210, [(4, .int (S.1 145 p2.toNatClampNeg)), (3, .int (S.1 145 p2.toNatClampNeg)), (0, .ref 135), (1, .int p1), (2, .int p2)], [])) tb_c_171_2 mx_171 2 rfl ?_
                          exact go_lv (ls_sc rfl rfl (ls_sc rfl rfl (ls_sc rfl rfl (ls_sc rfl rfl ls_nil)))) (sn_Mo_onRest_210 wd_F h)
theorem mx_162 : mi_mx tb_P 162 = 3 := rfl
noncomputable def fn_Mo_parse_114 (S : wd_S) : Option wd_S :=
  some S
set_option maxRecDepth 100000 in
theorem sn_Mo_parse_114 {L : Nat} {xs : Nat → Int32} {S : wd_S} {S' : wd_S} (h : fn_Mo_parse_114  S = some S') : go_r tb_P L xs 7 162 114 [] [] (wd_k S) (.inl none, wd_k S') := by
  unfold fn_Mo_parse_114 at h
  cases h
  exact bk_t tb_c_162_1 rfl rfl
noncomputable def fn_Mo_parse_111 (kk21 : wd_S → Option wd_S) (S : wd_S) : Option wd_S :=
  kk21  S
set_option maxRecDepth 100000 in
theorem sn_Mo_parse_111 {L : Nat} {xs : Nat → Int32} {kk21 : wd_S → Option wd_S} (hk21 : ∀ {S : wd_S} {S' : wd_S}, kk21  S = some S' → go_r tb_P L xs 7 162 21 [(0, .ref 135)] [] (wd_k S) (.inl none, wd_k S')) {S : wd_S} {S' : wd_S} (h : fn_Mo_parse_111 kk21  S = some S') : go_r tb_P L xs 7 162 111 [(0, .ref 135)] [] (wd_k S) (.inl none, wd_k S') := by
  unfold fn_Mo_parse_111 at h
  refine bk_b (q := (21, [(0, .ref 135)], [])) tb_c_162_1 mx_162 1 rfl ?_
  exact go_lv (ls_sc rfl rfl ls_nil) (hk21 h)
noncomputable def fn_Mo_parse_21 : Nat → wd_S → Option wd_S
  | 0, _ => none
  | n + 1, S =>
    (if 0 < (S.1 135 35) then
      (if (S.1 135 9) = 0 then
        (wd_b (wd_i S 135 35 ((S.1 135 35) - (1 : Int32))) fun S9 =>
        (if (S9.1 135 35) < 0 ∨ 4000 ≤ (S9.1 135 35).toNatClampNeg then none else
        (if (S9.1 135 35) < 0 ∨ 4000 ≤ (S9.1 135 35).toNatClampNeg then none else
        (if (S9.1 152 (S9.1 135 35).toNatClampNeg) = (1 : Int32) then
          (wd_d (fn_Mo_want (S9.1 153 (S9.1 135 35).toNatClampNeg) S9) fun S24 =>
          fn_Mo_parse_111 (fn_Mo_parse_21 n)  S24)
        else
          (if (S9.1 152 (S9.1 135 35).toNatClampNeg) = (4 : Int32) then
            (wd_d (fn_Mo_onE  S9) fun S21 =>
            fn_Mo_parse_111 (fn_Mo_parse_21 n)  S21)
          else
            (if (12 : Int32) < (S9.1 152 (S9.1 135 35).toNatClampNeg) then
              (wd_d (fn_Mo_onRest (S9.1 152 (S9.1 135 35).toNatClampNeg) (S9.1 153 (S9.1 135 35).toNatClampNeg) S9) fun S15 =>
              fn_Mo_parse_111 (fn_Mo_parse_21 n)  S15)
            else
              (wd_d (fn_Mo_onSum (S9.1 152 (S9.1 135 35).toNatClampNeg) (S9.1 153 (S9.1 135 35).toNatClampNeg) S9) fun S18 =>
              fn_Mo_parse_111 (fn_Mo_parse_21 n)  S18)))))))
      else
        fn_Mo_parse_114  S)
    else
      fn_Mo_parse_114  S)
set_option maxRecDepth 100000 in
theorem sn_Mo_parse_21 {L : Nat} {xs : Nat → Int32} : ∀ (n : Nat) {S : wd_S} {S' : wd_S}, fn_Mo_parse_21 n  S = some S' → go_r tb_P L xs 7 162 21 [(0, .ref 135)] [] (wd_k S) (.inl none, wd_k S') := by
  intro n
  induction n with
  | zero => intro  S S'  h; cases h
  | succ n ih =>
    intro  S S'  h
    rw [fn_Mo_parse_21] at h
    refine bk_b (q := (22, [(0, .ref 135)], [.ref 135])) tb_c_162_0 mx_162 1 rfl ?_
    refine bk_gi tb_c_162_0 rfl rfl (ci := 11) (k := 35) rfl rfl rfl ?_
    by_cases g7 : 0 < (S.1 135 35)
    · rw [if_pos g7] at h
      refine bk_zf tb_c_162_0 rfl (pc' := 28) rfl (t := 114) rfl (cm_le_f g7) ?_
      refine bk_b (q := (29, [(0, .ref 135)], [.ref 135])) tb_c_162_0 mx_162 1 rfl ?_
      refine bk_gi tb_c_162_0 rfl rfl (ci := 11) (k := 9) rfl rfl rfl ?_
      by_cases g8 : (S.1 135 9) = 0
      · rw [if_pos g8] at h
        refine bk_zf tb_c_162_0 rfl (pc' := 35) rfl (t := 114) rfl (cm_ne_f g8) ?_
        refine bk_b (q := (37, [(0, .ref 135)], [.ref 135, .ref 135])) tb_c_162_0 mx_162 2 rfl ?_
        refine bk_gi tb_c_162_0 rfl rfl (ci := 11) (k := 35) rfl rfl rfl ?_
        refine bk_b (q := (42, [(0, .ref 135)], [.int ((S.1 135 35) - (1 : Int32)), .ref 135])) tb_c_162_0 mx_162 2 rfl ?_
        obtain ⟨S9, eS9, h⟩ := wd_bx h
        refine bk_pi tb_c_162_0 rfl rfl (ci := 11) (k := 35) rfl rfl rfl rfl ?_
        rw [eS9]
        refine bk_b (q := (46, [(0, .ref 135)], [.ref 135])) tb_c_162_0 mx_162 1 rfl ?_
        refine bk_gc tb_c_162_0 rfl rfl (ci := 11) (k := 32) rfl rfl rfl ?_
        refine bk_b (q := (50, [(0, .ref 135)], [.ref 135, .ref 152])) tb_c_162_0 mx_162 1 rfl ?_
        refine bk_gi tb_c_162_0 rfl rfl (ci := 11) (k := 35) rfl rfl rfl ?_
        by_cases g10 : (S9.1 135 35) < 0 ∨ 4000 ≤ (S9.1 135 35).toNatClampNeg
        · rw [if_pos g10] at h; cases h
        · rw [if_neg g10] at h
          refine bk_a4 tb_c_162_0 rfl rfl rfl g10 ?_
          refine bk_b (q := (56, [(1, .int (S9.1 152 (S9.1 135 35).toNatClampNeg)), (0, .ref 135)], [.ref 135])) tb_c_162_0 mx_162 2 rfl ?_
          refine bk_gc tb_c_162_0 rfl rfl (ci := 11) (k := 33) rfl rfl rfl ?_
          refine bk_b (q := (60, [(1, .int (S9.1 152 (S9.1 135 35).toNatClampNeg)), (0, .ref 135)], [.ref 135, .ref 153])) tb_c_162_0 mx_162 1 rfl ?_
          refine bk_gi tb_c_162_0 rfl rfl (ci := 11) (k := 35) rfl rfl rfl ?_
          by_cases g11 : (S9.1 135 35) < 0 ∨ 4000 ≤ (S9.1 135 35).toNatClampNeg
          · rw [if_pos g11] at h; cases h
          · rw [if_neg g11] at h
            refine bk_a4 tb_c_162_0 rfl rfl rfl g11 ?_
            refine bk_b (q := (67, [(2, .int (S9.1 153 (S9.1 135 35).toNatClampNeg)), (1, .int (S9.1 152 (S9.1 135 35).toNatClampNeg)), (0, .ref 135)], [.int (1 : Int32), .int (S9.1 152 (S9.1 135 35).toNatClampNeg)])) tb_c_162_0 mx_162 3 rfl ?_
            by_cases g12 : (S9.1 152 (S9.1 135 35).toNatClampNeg) = (1 : Int32)
            · rw [if_pos g12] at h
              refine bk_jf tb_c_162_0 rfl (pc' := 70) rfl (t := 78) rfl (cm_ne_f g12) ?_
              refine bk_b (q := (72, [(2, .int (S9.1 153 (S9.1 135 35).toNatClampNeg)), (1, .int (S9.1 152 (S9.1 135 35).toNatClampNeg)), (0, .ref 135)], [.int (S9.1 153 (S9.1 135 35).toNatClampNeg), .ref 135])) tb_c_162_1 mx_162 2 rfl ?_
              obtain ⟨S24, c26, h⟩ := wd_dx h
              refine bk_kv tb_c_162_1 rfl rfl rfl rfl rfl (ci := 11) rfl rfl (ev_up (Nat.le_of_ble_eq_true rfl) (sn_Mo_want c26)) ?_
              refine bk_b (q := (111, [(2, .int (S9.1 153 (S9.1 135 35).toNatClampNeg)), (1, .int (S9.1 152 (S9.1 135 35).toNatClampNeg)), (0, .ref 135)], [])) tb_c_162_1 mx_162 1 rfl ?_
              exact go_lv (ls_sc rfl rfl ls_nil) (sn_Mo_parse_111 ih h)
            · rw [if_neg g12] at h
              refine bk_jt tb_c_162_0 rfl (pc' := 78) rfl (cm_ne_t g12) ?_
              refine bk_b (q := (80, [(2, .int (S9.1 153 (S9.1 135 35).toNatClampNeg)), (1, .int (S9.1 152 (S9.1 135 35).toNatClampNeg)), (0, .ref 135)], [.int (4 : Int32), .int (S9.1 152 (S9.1 135 35).toNatClampNeg)])) tb_c_162_1 mx_162 2 rfl ?_
              by_cases g13 : (S9.1 152 (S9.1 135 35).toNatClampNeg) = (4 : Int32)
              · rw [if_pos g13] at h
                refine bk_jf tb_c_162_1 rfl (pc' := 83) rfl (t := 90) rfl (cm_ne_f g13) ?_
                refine bk_b (q := (84, [(2, .int (S9.1 153 (S9.1 135 35).toNatClampNeg)), (1, .int (S9.1 152 (S9.1 135 35).toNatClampNeg)), (0, .ref 135)], [.ref 135])) tb_c_162_1 mx_162 1 rfl ?_
                obtain ⟨S21, c23, h⟩ := wd_dx h
                refine bk_kv tb_c_162_1 rfl rfl rfl rfl rfl (ci := 11) rfl rfl (ev_up (Nat.le_of_ble_eq_true rfl) (sn_Mo_onE c23)) ?_
                refine bk_b (q := (111, [(2, .int (S9.1 153 (S9.1 135 35).toNatClampNeg)), (1, .int (S9.1 152 (S9.1 135 35).toNatClampNeg)), (0, .ref 135)], [])) tb_c_162_1 mx_162 1 rfl ?_
                exact go_lv (ls_sc rfl rfl ls_nil) (sn_Mo_parse_111 ih h)
              · rw [if_neg g13] at h
                refine bk_jt tb_c_162_1 rfl (pc' := 90) rfl (cm_ne_t g13) ?_
                refine bk_b (q := (93, [(2, .int (S9.1 153 (S9.1 135 35).toNatClampNeg)), (1, .int (S9.1 152 (S9.1 135 35).toNatClampNeg)), (0, .ref 135)], [.int (12 : Int32), .int (S9.1 152 (S9.1 135 35).toNatClampNeg)])) tb_c_162_1 mx_162 2 rfl ?_
                by_cases g14 : (12 : Int32) < (S9.1 152 (S9.1 135 35).toNatClampNeg)
                · rw [if_pos g14] at h
                  refine bk_jt tb_c_162_1 rfl (pc' := 105) rfl (cm_gt_t g14) ?_
                  refine bk_b (q := (108, [(2, .int (S9.1 153 (S9.1 135 35).toNatClampNeg)), (1, .int (S9.1 152 (S9.1 135 35).toNatClampNeg)), (0, .ref 135)], [.int (S9.1 153 (S9.1 135 35).toNatClampNeg), .int (S9.1 152 (S9.1 135 35).toNatClampNeg), .ref 135])) tb_c_162_1 mx_162 3 rfl ?_
                  obtain ⟨S15, c17, h⟩ := wd_dx h
                  refine bk_kv tb_c_162_1 rfl rfl rfl rfl rfl (ci := 11) rfl rfl (ev_up (Nat.le_of_ble_eq_true rfl) (sn_Mo_onRest c17)) ?_
                  exact go_lv (ls_sc rfl rfl ls_nil) (sn_Mo_parse_111 ih h)
                · rw [if_neg g14] at h
                  refine bk_jf tb_c_162_1 rfl (pc' := 96) rfl (t := 105) rfl (cm_gt_f g14) ?_
                  refine bk_b (q := (99, [(2, .int (S9.1 153 (S9.1 135 35).toNatClampNeg)), (1, .int (S9.1 152 (S9.1 135 35).toNatClampNeg)), (0, .ref 135)], [.int (S9.1 153 (S9.1 135 35).toNatClampNeg), .int (S9.1 152 (S9.1 135 35).toNatClampNeg), .ref 135])) tb_c_162_1 mx_162 3 rfl ?_
                  obtain ⟨S18, c20, h⟩ := wd_dx h
                  refine bk_kv tb_c_162_1 rfl rfl rfl rfl rfl (ci := 11) rfl rfl (ev_up (Nat.le_of_ble_eq_true rfl) (sn_Mo_onSum c20)) ?_
                  refine bk_b (q := (111, [(2, .int (S9.1 153 (S9.1 135 35).toNatClampNeg)), (1, .int (S9.1 152 (S9.1 135 35).toNatClampNeg)), (0, .ref 135)], [])) tb_c_162_1 mx_162 1 rfl ?_
                  exact go_lv (ls_sc rfl rfl ls_nil) (sn_Mo_parse_111 ih h)
      · rw [if_neg g8] at h
        refine bk_zt tb_c_162_0 rfl (pc' := 114) rfl (cm_ne_t g8) ?_
        exact go_lv ls_nil (sn_Mo_parse_114 h)
    · rw [if_neg g7] at h
      refine bk_zt tb_c_162_0 rfl (pc' := 114) rfl (cm_le_t g7) ?_
      exact go_lv ls_nil (sn_Mo_parse_114 h)
/-- SpecialiserModel.parse()V -/
noncomputable def fn_Mo_parse (S : wd_S) : Option wd_S :=
  (wd_b (wd_i S 135 35 (0 : Int32)) fun S1 =>
  (wd_b (wd_i S1 135 37 (0 : Int32)) fun S2 =>
  (wd_b (wd_i S2 135 38 (0 : Int32)) fun S3 =>
  (wd_d (fn_Mo_push (4 : Int32) (0 : Int32) S3) fun S4 =>
  fn_Mo_parse_21 wd_F  S4))))
set_option maxRecDepth 100000 in
theorem sn_Mo_parse {L : Nat} {xs : Nat → Int32} {S : wd_S} {S' : wd_S} (h : fn_Mo_parse  S = some S') : ev_r tb_P L xs (7 + 1) 162 [.ref 135] (wd_k S) (.inl none, wd_k S') := by
  unfold fn_Mo_parse at h
  refine ev_of (Nat.le_of_ble_eq_true rfl) ?_
  show go_r tb_P L xs 7 162 0 [(0, .ref 135)] [] (wd_k S) (.inl none, wd_k S')
  refine bk_b (q := (2, [(0, .ref 135)], [.int (0 : Int32), .ref 135])) tb_c_162_0 mx_162 2 rfl ?_
  obtain ⟨S1, eS1, h⟩ := wd_bx h
  refine bk_pi tb_c_162_0 rfl rfl (ci := 11) (k := 35) rfl rfl rfl rfl ?_
  rw [eS1]
  refine bk_b (q := (7, [(0, .ref 135)], [.int (0 : Int32), .ref 135])) tb_c_162_0 mx_162 2 rfl ?_
  obtain ⟨S2, eS2, h⟩ := wd_bx h
  refine bk_pi tb_c_162_0 rfl rfl (ci := 11) (k := 37) rfl rfl rfl rfl ?_
  rw [eS2]
  refine bk_b (q := (12, [(0, .ref 135)], [.int (0 : Int32), .ref 135])) tb_c_162_0 mx_162 2 rfl ?_
  obtain ⟨S3, eS3, h⟩ := wd_bx h
  refine bk_pi tb_c_162_0 rfl rfl (ci := 11) (k := 38) rfl rfl rfl rfl ?_
  rw [eS3]
  refine bk_b (q := (18, [(0, .ref 135)], [.int (0 : Int32), .int (4 : Int32), .ref 135])) tb_c_162_0 mx_162 3 rfl ?_
  obtain ⟨S4, c6, h⟩ := wd_dx h
  refine bk_kv tb_c_162_0 rfl rfl rfl rfl rfl (ci := 11) rfl rfl (ev_up (Nat.le_of_ble_eq_true rfl) (sn_Mo_push c6)) ?_
  exact go_lv (ls_sc rfl rfl ls_nil) (sn_Mo_parse_21 wd_F h)
theorem mx_158 : mi_mx tb_P 158 = 3 := rfl
noncomputable def fn_Mo_definition_301 (l2 : Int32) (S : wd_S) : Option wd_S :=
  (if (0 : Int32) < 0 ∨ 1600 ≤ (0 : Int32).toNatClampNeg then none else
  (if (S.1 135 31) < 0 ∨ 96 ≤ (S.1 135 31).toNatClampNeg then none else
  (wd_b (wd_i S 140 (S.1 135 31).toNatClampNeg (S.1 155 (0 : Int32).toNatClampNeg)) fun S30 =>
  (if (S30.1 135 31) < 0 ∨ 96 ≤ (S30.1 135 31).toNatClampNeg then none else
  (wd_b (wd_i S30 141 (S30.1 135 31).toNatClampNeg ((S30.1 135 27) - l2)) fun S32 =>
  (wd_d (fn_Mo_want (17 : Int32) S32) fun S33 =>
  some S33))))))
set_option maxRecDepth 100000 in
theorem sn_Mo_definition_301 {L : Nat} {xs : Nat → Int32} {l2 : Int32} {S : wd_S} {S' : wd_S} (h : fn_Mo_definition_301 l2 S = some S') : go_r tb_P L xs 8 158 301 [(0, .ref 135), (2, .int l2)] [] (wd_k S) (.inl none, wd_k S') := by
  unfold fn_Mo_definition_301 at h
  refine bk_b (q := (302, [(0, .ref 135), (2, .int l2)], [.ref 135])) tb_c_158_3 mx_158 1 rfl ?_
  refine bk_gc tb_c_158_3 rfl rfl (ci := 11) (k := 14) rfl rfl rfl ?_
  refine bk_b (q := (306, [(0, .ref 135), (2, .int l2)], [.ref 135, .ref 140])) tb_c_158_4 mx_158 1 rfl ?_
  refine bk_gi tb_c_158_4 rfl rfl (ci := 11) (k := 31) rfl rfl rfl ?_
  refine bk_b (q := (310, [(0, .ref 135), (2, .int l2)], [.ref 135, .int (S.1 135 31), .ref 140])) tb_c_158_4 mx_158 1 rfl ?_
  refine bk_gc tb_c_158_4 rfl rfl (ci := 11) (k := 36) rfl rfl rfl ?_
  refine bk_b (q := (314, [(0, .ref 135), (2, .int l2)], [.int (0 : Int32), .ref 155, .int (S.1 135 31), .ref 140])) tb_c_158_4 mx_158 1 rfl ?_
  by_cases g28 : (0 : Int32) < 0 ∨ 1600 ≤ (0 : Int32).toNatClampNeg
  · rw [if_pos g28] at h; cases h
  · rw [if_neg g28] at h
    refine bk_a4 tb_c_158_4 rfl rfl rfl g28 ?_
    by_cases g29 : (S.1 135 31) < 0 ∨ 96 ≤ (S.1 135 31).toNatClampNeg
    · rw [if_pos g29] at h; cases h
    · rw [if_neg g29] at h
      obtain ⟨S30, eS30, h⟩ := wd_bx h
      refine bk_s4 tb_c_158_4 rfl rfl rfl g29 ?_
      rw [eS30]
      refine bk_b (q := (317, [(0, .ref 135), (2, .int l2)], [.ref 135])) tb_c_158_4 mx_158 1 rfl ?_
      refine bk_gc tb_c_158_4 rfl rfl (ci := 11) (k := 15) rfl rfl rfl ?_
      refine bk_b (q := (321, [(0, .ref 135), (2, .int l2)], [.ref 135, .ref 141])) tb_c_158_4 mx_158 1 rfl ?_
      refine bk_gi tb_c_158_4 rfl rfl (ci := 11) (k := 31) rfl rfl rfl ?_
      refine bk_b (q := (325, [(0, .ref 135), (2, .int l2)], [.ref 135, .int (S30.1 135 31), .ref 141])) tb_c_158_4 mx_158 1 rfl ?_
      refine bk_gi tb_c_158_4 rfl rfl (ci := 11) (k := 27) rfl rfl rfl ?_
      refine bk_b (q := (330, [(0, .ref 135), (2, .int l2)], [.int ((S30.1 135 27) - l2), .int (S30.1 135 31), .ref 141])) tb_c_158_4 mx_158 2 rfl ?_
      by_cases g31 : (S30.1 135 31) < 0 ∨ 96 ≤ (S30.1 135 31).toNatClampNeg
      · rw [if_pos g31] at h; cases h
      · rw [if_neg g31] at h
        obtain ⟨S32, eS32, h⟩ := wd_bx h
        refine bk_s4 tb_c_158_4 rfl rfl rfl g31 ?_
        rw [eS32]
        refine bk_b (q := (334, [(0, .ref 135), (2, .int l2)], [.int (17 : Int32), .ref 135])) tb_c_158_4 mx_158 2 rfl ?_
        obtain ⟨S33, c35, h⟩ := wd_dx h
        refine bk_kv tb_c_158_4 rfl rfl rfl rfl rfl (ci := 11) rfl rfl (ev_up (Nat.le_of_ble_eq_true rfl) (sn_Mo_want c35)) ?_
        cases h
        exact bk_t tb_c_158_4 rfl rfl
noncomputable def fn_Mo_definition_270 (kk210 : Int32 → wd_S → Option wd_S) (l1 : Int32) (S : wd_S) : Option wd_S :=
  kk210 l1 S
set_option maxRecDepth 100000 in
theorem sn_Mo_definition_270 {L : Nat} {xs : Nat → Int32} {kk210 : Int32 → wd_S → Option wd_S} (hk210 : ∀ {l1 : Int32} {S : wd_S} {S' : wd_S}, kk210 l1 S = some S' → go_r tb_P L xs 8 158 210 [(0, .ref 135), (1, .int l1)] [] (wd_k S) (.inl none, wd_k S')) {l1 : Int32} {S : wd_S} {S' : wd_S} (h : fn_Mo_definition_270 kk210 l1 S = some S') : go_r tb_P L xs 8 158 270 [(0, .ref 135), (1, .int l1)] [] (wd_k S) (.inl none, wd_k S') := by
  unfold fn_Mo_definition_270 at h
  refine bk_b (q := (210, [(0, .ref 135), (1, .int l1)], [])) tb_c_158_3 mx_158 1 rfl ?_
  exact go_lv (ls_sc rfl rfl (ls_sc rfl rfl ls_nil)) (hk210 h)
noncomputable def fn_Mo_definition_261 (kk210 : Int32 → wd_S → Option wd_S) (s0 : Int32) (S : wd_S) : Option wd_S :=
  (if s0 = 0 then
    fn_Mo_definition_270 kk210 s0 S
  else
    (wd_d (fn_Mo_pass  S) fun S45 =>
    fn_Mo_definition_270 kk210 s0 S45))
set_option maxRecDepth 100000 in
theorem sn_Mo_definition_261 {L : Nat} {xs : Nat → Int32} {kk210 : Int32 → wd_S → Option wd_S} (hk210 : ∀ {l1 : Int32} {S : wd_S} {S' : wd_S}, kk210 l1 S = some S' → go_r tb_P L xs 8 158 210 [(0, .ref 135), (1, .int l1)] [] (wd_k S) (.inl none, wd_k S')) {s0 : Int32} {S : wd_S} {S' : wd_S} (h : fn_Mo_definition_261 kk210 s0 S = some S') : go_r tb_P L xs 8 158 261 [(0, .ref 135)] [.int s0] (wd_k S) (.inl none, wd_k S') := by
  unfold fn_Mo_definition_261 at h
  refine bk_b (q := (263, [(1, .int s0), (0, .ref 135)], [.int s0])) tb_c_158_3 mx_158 2 rfl ?_
  by_cases g44 : s0 = 0
  · rw [if_pos g44] at h
    refine bk_zt tb_c_158_3 rfl (pc' := 270) rfl (cm_eq_t g44) ?_
    exact go_lv (ls_sc rfl rfl (ls_sc rfl rfl ls_nil)) (sn_Mo_definition_270 hk210 h)
  · rw [if_neg g44] at h
    refine bk_zf tb_c_158_3 rfl (pc' := 266) rfl (t := 270) rfl (cm_eq_f g44) ?_
    refine bk_b (q := (267, [(1, .int s0), (0, .ref 135)], [.ref 135])) tb_c_158_3 mx_158 1 rfl ?_
    obtain ⟨S45, c47, h⟩ := wd_dx h
    refine bk_kv tb_c_158_3 rfl rfl rfl rfl rfl (ci := 11) rfl rfl (ev_up (Nat.le_of_ble_eq_true rfl) (sn_Mo_pass c47)) ?_
    exact go_lv (ls_sc rfl rfl (ls_sc rfl rfl ls_nil)) (sn_Mo_definition_270 hk210 h)
noncomputable def fn_Mo_definition_260 (kk210 : Int32 → wd_S → Option wd_S) (S : wd_S) : Option wd_S :=
  fn_Mo_definition_261 kk210 (0 : Int32) S
set_option maxRecDepth 100000 in
theorem sn_Mo_definition_260 {L : Nat} {xs : Nat → Int32} {kk210 : Int32 → wd_S → Option wd_S} (hk210 : ∀ {l1 : Int32} {S : wd_S} {S' : wd_S}, kk210 l1 S = some S' → go_r tb_P L xs 8 158 210 [(0, .ref 135), (1, .int l1)] [] (wd_k S) (.inl none, wd_k S')) {S : wd_S} {S' : wd_S} (h : fn_Mo_definition_260 kk210  S = some S') : go_r tb_P L xs 8 158 260 [(0, .ref 135)] [] (wd_k S) (.inl none, wd_k S') := by
  unfold fn_Mo_definition_260 at h
  refine bk_b (q := (261, [(0, .ref 135)], [.int (0 : Int32)])) tb_c_158_3 mx_158 1 rfl ?_
  exact go_lv (ls_sc rfl rfl ls_nil) (sn_Mo_definition_261 hk210 h)
noncomputable def fn_Mo_definition_240 (kk210 : Int32 → wd_S → Option wd_S) (S : wd_S) : Option wd_S :=
  (if (S.1 135 9) = 0 then
    (if (S.1 135 4) = (16 : Int32) then
      fn_Mo_definition_261 kk210 (1 : Int32) S
    else
      fn_Mo_definition_260 kk210  S)
  else
    fn_Mo_definition_260 kk210  S)
set_option maxRecDepth 100000 in
theorem sn_Mo_definition_240 {L : Nat} {xs : Nat → Int32} {kk210 : Int32 → wd_S → Option wd_S} (hk210 : ∀ {l1 : Int32} {S : wd_S} {S' : wd_S}, kk210 l1 S = some S' → go_r tb_P L xs 8 158 210 [(0, .ref 135), (1, .int l1)] [] (wd_k S) (.inl none, wd_k S')) {S : wd_S} {S' : wd_S} (h : fn_Mo_definition_240 kk210  S = some S') : go_r tb_P L xs 8 158 240 [(0, .ref 135)] [] (wd_k S) (.inl none, wd_k S') := by
  unfold fn_Mo_definition_240 at h
  refine bk_b (q := (241, [(0, .ref 135)], [.ref 135])) tb_c_158_3 mx_158 1 rfl ?_
  refine bk_gi tb_c_158_3 rfl rfl (ci := 11) (k := 9) rfl rfl rfl ?_
  by_cases g43 : (S.1 135 9) = 0
  · rw [if_pos g43] at h
    refine bk_zf tb_c_158_3 rfl (pc' := 247) rfl (t := 260) rfl (cm_ne_f g43) ?_
    refine bk_b (q := (248, [(0, .ref 135)], [.ref 135])) tb_c_158_3 mx_158 1 rfl ?_
    refine bk_gi tb_c_158_3 rfl rfl (ci := 11) (k := 4) rfl rfl rfl ?_
    refine bk_b (q := (253, [(0, .ref 135)], [.int (16 : Int32), .int (S.1 135 4)])) tb_c_158_3 mx_158 1 rfl ?_
    by_cases g48 : (S.1 135 4) = (16 : Int32)
    · rw [if_pos g48] at h
      refine bk_jf tb_c_158_3 rfl (pc' := 256) rfl (t := 260) rfl (cm_ne_f g48) ?_
      refine bk_b (q := (261, [(0, .ref 135)], [.int (1 : Int32)])) tb_c_158_3 mx_158 2 rfl ?_
      exact go_lv (ls_sc rfl rfl ls_nil) (sn_Mo_definition_261 hk210 h)
    · rw [if_neg g48] at h
      refine bk_jt tb_c_158_3 rfl (pc' := 260) rfl (cm_ne_t g48) ?_
      exact go_lv (ls_sc rfl rfl ls_nil) (sn_Mo_definition_260 hk210 h)
  · rw [if_neg g43] at h
    refine bk_zt tb_c_158_3 rfl (pc' := 260) rfl (cm_ne_t g43) ?_
    exact go_lv (ls_sc rfl rfl ls_nil) (sn_Mo_definition_260 hk210 h)
noncomputable def fn_Mo_definition_210 : Nat → Int32 → wd_S → Option wd_S
  | 0, _, _ => none
  | n + 1, l1, S =>
    (if l1 = 0 then
      (wd_d (fn_Mo_want (15 : Int32) S) fun S21 =>
      (wd_d (fn_Mo_want (13 : Int32) S21) fun S24 =>
      (if (S24.1 135 9) = 0 then
        (wd_d (fn_Mo_parse  S24) fun S36 =>
        fn_Mo_definition_301 (S24.1 135 27) S36)
      else
        fn_Mo_definition_301 (S24.1 135 27) S24)))
    else
      (wd_c (fn_Mo_name (1 : Int32) S) fun x40 S39 =>
      (if (S39.1 135 9) = 0 then
        (if (S39.1 135 31) < 0 ∨ 96 ≤ (S39.1 135 31).toNatClampNeg then none else
        (if (S39.1 135 31) < 0 ∨ 96 ≤ (S39.1 135 31).toNatClampNeg then none else
        (wd_b (wd_i S39 138 (S39.1 135 31).toNatClampNeg ((S39.1 138 (S39.1 135 31).toNatClampNeg) + (1 : Int32))) fun S51 =>
        fn_Mo_definition_240 (fn_Mo_definition_210 n)  S51)))
      else
        fn_Mo_definition_240 (fn_Mo_definition_210 n)  S39)))
set_option maxRecDepth 100000 in
theorem sn_Mo_definition_210 {L : Nat} {xs : Nat → Int32} : ∀ (n : Nat) {l1 : Int32} {S : wd_S} {S' : wd_S}, fn_Mo_definition_210 n l1 S = some S' → go_r tb_P L xs 8 158 210 [(0, .ref 135), (1, .int l1)] [] (wd_k S) (.inl none, wd_k S') := by
  intro n
  induction n with
  | zero => intro l1 S S'  h; cases h
  | succ n ih =>
    intro l1 S S'  h
    rw [fn_Mo_definition_210] at h
    refine bk_b (q := (211, [(0, .ref 135), (1, .int l1)], [.int l1])) tb_c_158_2 mx_158 1 rfl ?_
    by_cases g20 : l1 = 0
    · rw [if_pos g20] at h
      refine bk_zt tb_c_158_2 rfl (pc' := 273) rfl (cm_eq_t g20) ?_
      refine bk_b (q := (276, [(0, .ref 135), (1, .int l1)], [.int (15 : Int32), .ref 135])) tb_c_158_3 mx_158 2 rfl ?_
      obtain ⟨S21, c23, h⟩ := wd_dx h
      refine bk_kv tb_c_158_3 rfl rfl rfl rfl rfl (ci := 11) rfl rfl (ev_up (Nat.le_of_ble_eq_true rfl) (sn_Mo_want c23)) ?_
      refine bk_b (q := (282, [(0, .ref 135), (1, .int l1)], [.int (13 : Int32), .ref 135])) tb_c_158_3 mx_158 2 rfl ?_
      obtain ⟨S24, c26, h⟩ := wd_dx h
      refine bk_kv tb_c_158_3 rfl rfl rfl rfl rfl (ci := 11) rfl rfl (ev_up (Nat.le_of_ble_eq_true rfl) (sn_Mo_want c26)) ?_
      refine bk_b (q := (286, [(0, .ref 135), (1, .int l1)], [.ref 135])) tb_c_158_3 mx_158 1 rfl ?_
      refine bk_gi tb_c_158_3 rfl rfl (ci := 11) (k := 27) rfl rfl rfl ?_
      refine bk_b (q := (291, [(2, .int (S24.1 135 27)), (0, .ref 135), (1, .int l1)], [.ref 135])) tb_c_158_3 mx_158 2 rfl ?_
      refine bk_gi tb_c_158_3 rfl rfl (ci := 11) (k := 9) rfl rfl rfl ?_
      by_cases g27 : (S24.1 135 9) = 0
      · rw [if_pos g27] at h
        refine bk_zf tb_c_158_3 rfl (pc' := 297) rfl (t := 301) rfl (cm_ne_f g27) ?_
        refine bk_b (q := (298, [(2, .int (S24.1 135 27)), (0, .ref 135), (1, .int l1)], [.ref 135])) tb_c_158_3 mx_158 1 rfl ?_
        obtain ⟨S36, c38, h⟩ := wd_dx h
        refine bk_kv tb_c_158_3 rfl rfl rfl rfl rfl (ci := 11) rfl rfl (ev_up (Nat.le_of_ble_eq_true rfl) (sn_Mo_parse c38)) ?_
        exact go_lv (ls_sc rfl rfl (ls_sc rfl rfl ls_nil)) (sn_Mo_definition_301 h)
      · rw [if_neg g27] at h
        refine bk_zt tb_c_158_3 rfl (pc' := 301) rfl (cm_ne_t g27) ?_
        exact go_lv (ls_sc rfl rfl (ls_sc rfl rfl ls_nil)) (sn_Mo_definition_301 h)
    · rw [if_neg g20] at h
      refine bk_zf tb_c_158_2 rfl (pc' := 214) rfl (t := 273) rfl (cm_eq_f g20) ?_
      refine bk_b (q := (216, [(0, .ref 135), (1, .int l1)], [.int (1 : Int32), .ref 135])) tb_c_158_2 mx_158 2 rfl ?_
      obtain ⟨x40, S39, c41, h⟩ := wd_cx h
      refine bk_kv tb_c_158_2 rfl rfl rfl rfl rfl (ci := 11) rfl rfl (ev_up (Nat.le_of_ble_eq_true rfl) (sn_Mo_name c41)) ?_
      refine bk_b (q := (221, [(2, .int x40), (0, .ref 135), (1, .int l1)], [.ref 135])) tb_c_158_2 mx_158 2 rfl ?_
      refine bk_gi tb_c_158_2 rfl rfl (ci := 11) (k := 9) rfl rfl rfl ?_
      by_cases g42 : (S39.1 135 9) = 0
      · rw [if_pos g42] at h
        refine bk_zf tb_c_158_2 rfl (pc' := 227) rfl (t := 240) rfl (cm_ne_f g42) ?_
        refine bk_b (q := (228, [(2, .int x40), (0, .ref 135), (1, .int l1)], [.ref 135])) tb_c_158_2 mx_158 1 rfl ?_
        refine bk_gc tb_c_158_3 rfl rfl (ci := 11) (k := 12) rfl rfl rfl ?_
        refine bk_b (q := (232, [(2, .int x40), (0, .ref 135), (1, .int l1)], [.ref 135, .ref 138])) tb_c_158_3 mx_158 1 rfl ?_
        refine bk_gi tb_c_158_3 rfl rfl (ci := 11) (k := 31) rfl rfl rfl ?_
        refine bk_b (q := (236, [(2, .int x40), (0, .ref 135), (1, .int l1)], [.int (S39.1 135 31), .ref 138, .int (S39.1 135 31), .ref 138])) tb_c_158_3 mx_158 1 rfl ?_
        by_cases g49 : (S39.1 135 31) < 0 ∨ 96 ≤ (S39.1 135 31).toNatClampNeg
        · rw [if_pos g49] at h; cases h
        · rw [if_neg g49] at h
          refine bk_a4 tb_c_158_3 rfl rfl rfl g49 ?_
          refine bk_b (q := (239, [(2, .int x40), (0, .ref 135), (1, .int l1)], [.int ((S39.1 138 (S39.1 135 31).toNatClampNeg) + (1 : Int32)), .int (S39.1 135 31), .ref 138])) tb_c_158_3 mx_158 2 rfl ?_
          by_cases g50 : (S39.1 135 31) < 0 ∨ 96 ≤ (S39.1 135 31).toNatClampNeg
          · rw [if_pos g50] at h; cases h
          · rw [if_neg g50] at h
            obtain ⟨S51, eS51, h⟩ := wd_bx h
            refine bk_s4 tb_c_158_3 rfl rfl rfl g50 ?_
            rw [eS51]
            exact go_lv (ls_sc rfl rfl ls_nil) (sn_Mo_definition_240 ih h)
      · rw [if_neg g42] at h
        refine bk_zt tb_c_158_2 rfl (pc' := 240) rfl (cm_ne_t g42) ?_
        exact go_lv (ls_sc rfl rfl ls_nil) (sn_Mo_definition_240 ih h)
noncomputable def fn_Mo_definition_209 (s0 : Int32) (S : wd_S) : Option wd_S :=
  fn_Mo_definition_210 wd_F s0 S
set_option maxRecDepth 100000 in
theorem sn_Mo_definition_209 {L : Nat} {xs : Nat → Int32} {s0 : Int32} {S : wd_S} {S' : wd_S} (h : fn_Mo_definition_209 s0 S = some S') : go_r tb_P L xs 8 158 209 [(0, .ref 135)] [.int s0] (wd_k S) (.inl none, wd_k S') := by
  unfold fn_Mo_definition_209 at h
  refine bk_b (q := (210, [(1, .int s0), (0, .ref 135)], [])) tb_c_158_2 mx_158 1 rfl ?_
  exact go_lv (ls_sc rfl rfl (ls_sc rfl rfl ls_nil)) (sn_Mo_definition_210 wd_F h)
noncomputable def fn_Mo_definition_208 (S : wd_S) : Option wd_S :=
  fn_Mo_definition_209 (0 : Int32) S
set_option maxRecDepth 100000 in
theorem sn_Mo_definition_208 {L : Nat} {xs : Nat → Int32} {S : wd_S} {S' : wd_S} (h : fn_Mo_definition_208  S = some S') : go_r tb_P L xs 8 158 208 [(0, .ref 135)] [] (wd_k S) (.inl none, wd_k S') := by
  unfold fn_Mo_definition_208 at h
  refine bk_b (q := (209, [(0, .ref 135)], [.int (0 : Int32)])) tb_c_158_2 mx_158 1 rfl ?_
  exact go_lv (ls_sc rfl rfl ls_nil) (sn_Mo_definition_209 h)
noncomputable def fn_Mo_definition_111 (S : wd_S) : Option wd_S :=
  (if (S.1 135 9) = 0 then
    (wd_b (wd_i S 135 31 (((48 : Int32) * (S.1 135 25)) + (S.1 135 26))) fun S5 =>
    (if (S5.1 135 31) < 0 ∨ 96 ≤ (S5.1 135 31).toNatClampNeg then none else
    (wd_b (wd_l S5 137 (S5.1 135 31).toNatClampNeg (S5.2.1 135 7)) fun S7 =>
    (if (S7.1 135 31) < 0 ∨ 96 ≤ (S7.1 135 31).toNatClampNeg then none else
    (wd_b (wd_i S7 138 (S7.1 135 31).toNatClampNeg (0 : Int32)) fun S9 =>
    (if (S9.1 135 31) < 0 ∨ 96 ≤ (S9.1 135 31).toNatClampNeg then none else
    (wd_b (wd_i S9 139 (S9.1 135 31).toNatClampNeg (0 : Int32)) fun S11 =>
    (wd_b (wd_i S11 135 26 ((S11.1 135 26) + (1 : Int32))) fun S12 =>
    (wd_d (fn_Mo_pass  S12) fun S13 =>
    (wd_d (fn_Mo_want (14 : Int32) S13) fun S16 =>
    (if (S16.1 135 9) = 0 then
      (if (S16.1 135 4) = (15 : Int32) then
        fn_Mo_definition_208  S16
      else
        fn_Mo_definition_209 (1 : Int32) S16)
    else
      fn_Mo_definition_208  S16)))))))))))
  else
    some S)
set_option maxRecDepth 100000 in
theorem sn_Mo_definition_111 {L : Nat} {xs : Nat → Int32} {S : wd_S} {S' : wd_S} (h : fn_Mo_definition_111  S = some S') : go_r tb_P L xs 8 158 111 [(0, .ref 135)] [] (wd_k S) (.inl none, wd_k S') := by
  unfold fn_Mo_definition_111 at h
  refine bk_b (q := (112, [(0, .ref 135)], [.ref 135])) tb_c_158_1 mx_158 1 rfl ?_
  refine bk_gi tb_c_158_1 rfl rfl (ci := 11) (k := 9) rfl rfl rfl ?_
  by_cases g4 : (S.1 135 9) = 0
  · rw [if_pos g4] at h
    refine bk_zt tb_c_158_1 rfl (pc' := 119) rfl (cm_eq_t g4) ?_
    refine bk_b (q := (123, [(0, .ref 135)], [.ref 135, .int (48 : Int32), .ref 135])) tb_c_158_1 mx_158 3 rfl ?_
    refine bk_gi tb_c_158_1 rfl rfl (ci := 11) (k := 25) rfl rfl rfl ?_
    refine bk_b (q := (128, [(0, .ref 135)], [.ref 135, .int ((48 : Int32) * (S.1 135 25)), .ref 135])) tb_c_158_1 mx_158 2 rfl ?_
    refine bk_gi tb_c_158_1 rfl rfl (ci := 11) (k := 26) rfl rfl rfl ?_
    refine bk_b (q := (132, [(0, .ref 135)], [.int (((48 : Int32) * (S.1 135 25)) + (S.1 135 26)), .ref 135])) tb_c_158_1 mx_158 1 rfl ?_
    obtain ⟨S5, eS5, h⟩ := wd_bx h
    refine bk_pi tb_c_158_1 rfl rfl (ci := 11) (k := 31) rfl rfl rfl rfl ?_
    rw [eS5]
    refine bk_b (q := (136, [(0, .ref 135)], [.ref 135])) tb_c_158_1 mx_158 1 rfl ?_
    refine bk_gc tb_c_158_1 rfl rfl (ci := 11) (k := 11) rfl rfl rfl ?_
    refine bk_b (q := (140, [(0, .ref 135)], [.ref 135, .ref 137])) tb_c_158_1 mx_158 1 rfl ?_
    refine bk_gi tb_c_158_1 rfl rfl (ci := 11) (k := 31) rfl rfl rfl ?_
    refine bk_b (q := (144, [(0, .ref 135)], [.ref 135, .int (S5.1 135 31), .ref 137])) tb_c_158_1 mx_158 1 rfl ?_
    refine bk_gl tb_c_158_1 rfl rfl (ci := 11) (k := 7) rfl rfl rfl ?_
    by_cases g6 : (S5.1 135 31) < 0 ∨ 96 ≤ (S5.1 135 31).toNatClampNeg
    · rw [if_pos g6] at h; cases h
    · rw [if_neg g6] at h
      obtain ⟨S7, eS7, h⟩ := wd_bx h
      refine bk_s8 tb_c_158_1 rfl rfl rfl g6 ?_
      rw [eS7]
      refine bk_b (q := (149, [(0, .ref 135)], [.ref 135])) tb_c_158_1 mx_158 1 rfl ?_
      refine bk_gc tb_c_158_1 rfl rfl (ci := 11) (k := 12) rfl rfl rfl ?_
      refine bk_b (q := (153, [(0, .ref 135)], [.ref 135, .ref 138])) tb_c_158_1 mx_158 1 rfl ?_
      refine bk_gi tb_c_158_1 rfl rfl (ci := 11) (k := 31) rfl rfl rfl ?_
      refine bk_b (q := (157, [(0, .ref 135)], [.int (0 : Int32), .int (S7.1 135 31), .ref 138])) tb_c_158_2 mx_158 1 rfl ?_
      by_cases g8 : (S7.1 135 31) < 0 ∨ 96 ≤ (S7.1 135 31).toNatClampNeg
      · rw [if_pos g8] at h; cases h
      · rw [if_neg g8] at h
        obtain ⟨S9, eS9, h⟩ := wd_bx h
        refine bk_s4 tb_c_158_2 rfl rfl rfl g8 ?_
        rw [eS9]
        refine bk_b (q := (159, [(0, .ref 135)], [.ref 135])) tb_c_158_2 mx_158 1 rfl ?_
        refine bk_gc tb_c_158_2 rfl rfl (ci := 11) (k := 13) rfl rfl rfl ?_
        refine bk_b (q := (163, [(0, .ref 135)], [.ref 135, .ref 139])) tb_c_158_2 mx_158 1 rfl ?_
        refine bk_gi tb_c_158_2 rfl rfl (ci := 11) (k := 31) rfl rfl rfl ?_
        refine bk_b (q := (167, [(0, .ref 135)], [.int (0 : Int32), .int (S9.1 135 31), .ref 139])) tb_c_158_2 mx_158 1 rfl ?_
        by_cases g10 : (S9.1 135 31) < 0 ∨ 96 ≤ (S9.1 135 31).toNatClampNeg
        · rw [if_pos g10] at h; cases h
        · rw [if_neg g10] at h
          obtain ⟨S11, eS11, h⟩ := wd_bx h
          refine bk_s4 tb_c_158_2 rfl rfl rfl g10 ?_
          rw [eS11]
          refine bk_b (q := (170, [(0, .ref 135)], [.ref 135, .ref 135])) tb_c_158_2 mx_158 2 rfl ?_
          refine bk_gi tb_c_158_2 rfl rfl (ci := 11) (k := 26) rfl rfl rfl ?_
          refine bk_b (q := (175, [(0, .ref 135)], [.int ((S11.1 135 26) + (1 : Int32)), .ref 135])) tb_c_158_2 mx_158 2 rfl ?_
          obtain ⟨S12, eS12, h⟩ := wd_bx h
          refine bk_pi tb_c_158_2 rfl rfl (ci := 11) (k := 26) rfl rfl rfl rfl ?_
          rw [eS12]
          refine bk_b (q := (179, [(0, .ref 135)], [.ref 135])) tb_c_158_2 mx_158 1 rfl ?_
          obtain ⟨S13, c15, h⟩ := wd_dx h
          refine bk_kv tb_c_158_2 rfl rfl rfl rfl rfl (ci := 11) rfl rfl (ev_up (Nat.le_of_ble_eq_true rfl) (sn_Mo_pass c15)) ?_
          refine bk_b (q := (185, [(0, .ref 135)], [.int (14 : Int32), .ref 135])) tb_c_158_2 mx_158 2 rfl ?_
          obtain ⟨S16, c18, h⟩ := wd_dx h
          refine bk_kv tb_c_158_2 rfl rfl rfl rfl rfl (ci := 11) rfl rfl (ev_up (Nat.le_of_ble_eq_true rfl) (sn_Mo_want c18)) ?_
          refine bk_b (q := (189, [(0, .ref 135)], [.ref 135])) tb_c_158_2 mx_158 1 rfl ?_
          refine bk_gi tb_c_158_2 rfl rfl (ci := 11) (k := 9) rfl rfl rfl ?_
          by_cases g19 : (S16.1 135 9) = 0
          · rw [if_pos g19] at h
            refine bk_zf tb_c_158_2 rfl (pc' := 195) rfl (t := 208) rfl (cm_ne_f g19) ?_
            refine bk_b (q := (196, [(0, .ref 135)], [.ref 135])) tb_c_158_2 mx_158 1 rfl ?_
            refine bk_gi tb_c_158_2 rfl rfl (ci := 11) (k := 4) rfl rfl rfl ?_
            refine bk_b (q := (201, [(0, .ref 135)], [.int (15 : Int32), .int (S16.1 135 4)])) tb_c_158_2 mx_158 1 rfl ?_
            by_cases g52 : (S16.1 135 4) = (15 : Int32)
            · rw [if_pos g52] at h
              refine bk_jt tb_c_158_2 rfl (pc' := 208) rfl (cm_eq_t g52) ?_
              exact go_lv (ls_sc rfl rfl ls_nil) (sn_Mo_definition_208 h)
            · rw [if_neg g52] at h
              refine bk_jf tb_c_158_2 rfl (pc' := 204) rfl (t := 208) rfl (cm_eq_f g52) ?_
              refine bk_b (q := (209, [(0, .ref 135)], [.int (1 : Int32)])) tb_c_158_2 mx_158 2 rfl ?_
              exact go_lv (ls_sc rfl rfl ls_nil) (sn_Mo_definition_209 h)
          · rw [if_neg g19] at h
            refine bk_zt tb_c_158_2 rfl (pc' := 208) rfl (cm_ne_t g19) ?_
            exact go_lv (ls_sc rfl rfl ls_nil) (sn_Mo_definition_208 h)
  · rw [if_neg g4] at h
    refine bk_zf tb_c_158_1 rfl (pc' := 118) rfl (t := 119) rfl (cm_eq_f g4) ?_
    cases h
    exact bk_t tb_c_158_1 rfl rfl
noncomputable def fn_Mo_definition_85 (S : wd_S) : Option wd_S :=
  (if (S.1 135 9) = 0 then
    (if (S.1 135 26) = (48 : Int32) then
      (wd_d (fn_Mo_stop (6 : Int32) (S.1 135 5) S) fun S54 =>
      fn_Mo_definition_111  S54)
    else
      fn_Mo_definition_111  S)
  else
    fn_Mo_definition_111  S)
set_option maxRecDepth 100000 in
theorem sn_Mo_definition_85 {L : Nat} {xs : Nat → Int32} {S : wd_S} {S' : wd_S} (h : fn_Mo_definition_85  S = some S') : go_r tb_P L xs 8 158 85 [(0, .ref 135)] [] (wd_k S) (.inl none, wd_k S') := by
  unfold fn_Mo_definition_85 at h
  refine bk_b (q := (86, [(0, .ref 135)], [.ref 135])) tb_c_158_1 mx_158 1 rfl ?_
  refine bk_gi tb_c_158_1 rfl rfl (ci := 11) (k := 9) rfl rfl rfl ?_
  by_cases g3 : (S.1 135 9) = 0
  · rw [if_pos g3] at h
    refine bk_zf tb_c_158_1 rfl (pc' := 92) rfl (t := 111) rfl (cm_ne_f g3) ?_
    refine bk_b (q := (93, [(0, .ref 135)], [.ref 135])) tb_c_158_1 mx_158 1 rfl ?_
    refine bk_gi tb_c_158_1 rfl rfl (ci := 11) (k := 26) rfl rfl rfl ?_
    refine bk_b (q := (98, [(0, .ref 135)], [.int (48 : Int32), .int (S.1 135 26)])) tb_c_158_1 mx_158 1 rfl ?_
    by_cases g53 : (S.1 135 26) = (48 : Int32)
    · rw [if_pos g53] at h
      refine bk_jf tb_c_158_1 rfl (pc' := 101) rfl (t := 111) rfl (cm_ne_f g53) ?_
      refine bk_b (q := (105, [(0, .ref 135)], [.ref 135, .int (6 : Int32), .ref 135])) tb_c_158_1 mx_158 3 rfl ?_
      refine bk_gi tb_c_158_1 rfl rfl (ci := 11) (k := 5) rfl rfl rfl ?_
      obtain ⟨S54, c56, h⟩ := wd_dx h
      refine bk_kv tb_c_158_1 rfl rfl rfl rfl rfl (ci := 11) rfl rfl (ev_up (Nat.le_of_ble_eq_true rfl) (sn_Mo_stop c56)) ?_
      exact go_lv (ls_sc rfl rfl ls_nil) (sn_Mo_definition_111 h)
    · rw [if_neg g53] at h
      refine bk_jt tb_c_158_1 rfl (pc' := 111) rfl (cm_ne_t g53) ?_
      exact go_lv (ls_sc rfl rfl ls_nil) (sn_Mo_definition_111 h)
  · rw [if_neg g3] at h
    refine bk_zt tb_c_158_1 rfl (pc' := 111) rfl (cm_ne_t g3) ?_
    exact go_lv (ls_sc rfl rfl ls_nil) (sn_Mo_definition_111 h)
noncomputable def fn_Mo_definition_79 (kk33 : Int32 → wd_S → Option wd_S) (l1 : Int32) (S : wd_S) : Option wd_S :=
  kk33 (l1 + (1 : Int32)) S
set_option maxRecDepth 100000 in
theorem sn_Mo_definition_79 {L : Nat} {xs : Nat → Int32} {kk33 : Int32 → wd_S → Option wd_S} (hk33 : ∀ {l1 : Int32} {S : wd_S} {S' : wd_S}, kk33 l1 S = some S' → go_r tb_P L xs 8 158 33 [(0, .ref 135), (1, .int l1)] [] (wd_k S) (.inl none, wd_k S')) {l1 : Int32} {S : wd_S} {S' : wd_S} (h : fn_Mo_definition_79 kk33 l1 S = some S') : go_r tb_P L xs 8 158 79 [(0, .ref 135), (1, .int l1)] [] (wd_k S) (.inl none, wd_k S') := by
  unfold fn_Mo_definition_79 at h
  refine bk_b (q := (33, [(1, .int (l1 + (1 : Int32))), (0, .ref 135)], [])) tb_c_158_1 mx_158 2 rfl ?_
  exact go_lv (ls_sc rfl rfl (ls_sc rfl rfl ls_nil)) (hk33 h)
noncomputable def fn_Mo_definition_33 : Nat → Int32 → wd_S → Option wd_S
  | 0, _, _ => none
  | n + 1, l1, S =>
    (if l1 < (((48 : Int32) * (S.1 135 25)) + (S.1 135 26)) then
      (if (S.1 135 9) = 0 then
        (if l1 < 0 ∨ 96 ≤ l1.toNatClampNeg then none else
        (if (lg_cmp (S.2.1 137 l1.toNatClampNeg) (S.2.1 135 7)) = 0 then
          (wd_d (fn_Mo_stop (3 : Int32) (S.1 135 5) S) fun S60 =>
          fn_Mo_definition_79 (fn_Mo_definition_33 n) l1 S60)
        else
          fn_Mo_definition_79 (fn_Mo_definition_33 n) l1 S))
      else
        fn_Mo_definition_85  S)
    else
      fn_Mo_definition_85  S)
set_option maxRecDepth 100000 in
theorem sn_Mo_definition_33 {L : Nat} {xs : Nat → Int32} : ∀ (n : Nat) {l1 : Int32} {S : wd_S} {S' : wd_S}, fn_Mo_definition_33 n l1 S = some S' → go_r tb_P L xs 8 158 33 [(0, .ref 135), (1, .int l1)] [] (wd_k S) (.inl none, wd_k S') := by
  intro n
  induction n with
  | zero => intro l1 S S'  h; cases h
  | succ n ih =>
    intro l1 S S'  h
    rw [fn_Mo_definition_33] at h
    refine bk_b (q := (37, [(0, .ref 135), (1, .int l1)], [.ref 135, .int (48 : Int32), .int l1])) tb_c_158_0 mx_158 3 rfl ?_
    refine bk_gi tb_c_158_0 rfl rfl (ci := 11) (k := 25) rfl rfl rfl ?_
    refine bk_b (q := (42, [(0, .ref 135), (1, .int l1)], [.ref 135, .int ((48 : Int32) * (S.1 135 25)), .int l1])) tb_c_158_0 mx_158 2 rfl ?_
    refine bk_gi tb_c_158_0 rfl rfl (ci := 11) (k := 26) rfl rfl rfl ?_
    refine bk_b (q := (46, [(0, .ref 135), (1, .int l1)], [.int (((48 : Int32) * (S.1 135 25)) + (S.1 135 26)), .int l1])) tb_c_158_0 mx_158 1 rfl ?_
    by_cases g2 : l1 < (((48 : Int32) * (S.1 135 25)) + (S.1 135 26))
    · rw [if_pos g2] at h
      refine bk_jf tb_c_158_0 rfl (pc' := 49) rfl (t := 85) rfl (cm_ge_f g2) ?_
      refine bk_b (q := (50, [(0, .ref 135), (1, .int l1)], [.ref 135])) tb_c_158_0 mx_158 1 rfl ?_
      refine bk_gi tb_c_158_0 rfl rfl (ci := 11) (k := 9) rfl rfl rfl ?_
      by_cases g57 : (S.1 135 9) = 0
      · rw [if_pos g57] at h
        refine bk_zf tb_c_158_0 rfl (pc' := 56) rfl (t := 85) rfl (cm_ne_f g57) ?_
        refine bk_b (q := (57, [(0, .ref 135), (1, .int l1)], [.ref 135])) tb_c_158_0 mx_158 1 rfl ?_
        refine bk_gc tb_c_158_0 rfl rfl (ci := 11) (k := 11) rfl rfl rfl ?_
        refine bk_b (q := (61, [(0, .ref 135), (1, .int l1)], [.int l1, .ref 137])) tb_c_158_0 mx_158 1 rfl ?_
        by_cases g58 : l1 < 0 ∨ 96 ≤ l1.toNatClampNeg
        · rw [if_pos g58] at h; cases h
        · rw [if_neg g58] at h
          refine bk_a8 tb_c_158_0 rfl rfl rfl g58 ?_
          refine bk_b (q := (63, [(0, .ref 135), (1, .int l1)], [.ref 135, .long (S.2.1 137 l1.toNatClampNeg)])) tb_c_158_0 mx_158 1 rfl ?_
          refine bk_gl tb_c_158_0 rfl rfl (ci := 11) (k := 7) rfl rfl rfl ?_
          refine bk_b (q := (67, [(0, .ref 135), (1, .int l1)], [.int (lg_cmp (S.2.1 137 l1.toNatClampNeg) (S.2.1 135 7))])) tb_c_158_0 mx_158 1 rfl ?_
          by_cases g59 : (lg_cmp (S.2.1 137 l1.toNatClampNeg) (S.2.1 135 7)) = 0
          · rw [if_pos g59] at h
            refine bk_zf tb_c_158_0 rfl (pc' := 70) rfl (t := 79) rfl (cm_ne_f g59) ?_
            refine bk_b (q := (73, [(0, .ref 135), (1, .int l1)], [.ref 135, .int (3 : Int32), .ref 135])) tb_c_158_0 mx_158 3 rfl ?_
            refine bk_gi tb_c_158_1 rfl rfl (ci := 11) (k := 5) rfl rfl rfl ?_
            obtain ⟨S60, c62, h⟩ := wd_dx h
            refine bk_kv tb_c_158_1 rfl rfl rfl rfl rfl (ci := 11) rfl rfl (ev_up (Nat.le_of_ble_eq_true rfl) (sn_Mo_stop c62)) ?_
            exact go_lv (ls_sc rfl rfl (ls_sc rfl rfl ls_nil)) (sn_Mo_definition_79 ih h)
          · rw [if_neg g59] at h
            refine bk_zt tb_c_158_0 rfl (pc' := 79) rfl (cm_ne_t g59) ?_
            exact go_lv (ls_sc rfl rfl (ls_sc rfl rfl ls_nil)) (sn_Mo_definition_79 ih h)
      · rw [if_neg g57] at h
        refine bk_zt tb_c_158_0 rfl (pc' := 85) rfl (cm_ne_t g57) ?_
        exact go_lv (ls_sc rfl rfl ls_nil) (sn_Mo_definition_85 h)
    · rw [if_neg g2] at h
      refine bk_jt tb_c_158_0 rfl (pc' := 85) rfl (cm_ge_t g2) ?_
      exact go_lv (ls_sc rfl rfl ls_nil) (sn_Mo_definition_85 h)
noncomputable def fn_Mo_definition_25 (S : wd_S) : Option wd_S :=
  fn_Mo_definition_33 wd_F ((48 : Int32) * (S.1 135 25)) S
set_option maxRecDepth 100000 in
theorem sn_Mo_definition_25 {L : Nat} {xs : Nat → Int32} {S : wd_S} {S' : wd_S} (h : fn_Mo_definition_25  S = some S') : go_r tb_P L xs 8 158 25 [(0, .ref 135)] [] (wd_k S) (.inl none, wd_k S') := by
  unfold fn_Mo_definition_25 at h
  refine bk_b (q := (28, [(0, .ref 135)], [.ref 135, .int (48 : Int32)])) tb_c_158_0 mx_158 2 rfl ?_
  refine bk_gi tb_c_158_0 rfl rfl (ci := 11) (k := 25) rfl rfl rfl ?_
  refine bk_b (q := (33, [(1, .int ((48 : Int32) * (S.1 135 25))), (0, .ref 135)], [])) tb_c_158_0 mx_158 2 rfl ?_
  exact go_lv (ls_sc rfl rfl (ls_sc rfl rfl ls_nil)) (sn_Mo_definition_33 wd_F h)
/-- SpecialiserModel.definition()V -/
noncomputable def fn_Mo_definition (S : wd_S) : Option wd_S :=
  (if (S.1 135 9) = 0 then
    (if (S.1 135 4) = (10 : Int32) then
      fn_Mo_definition_25  S
    else
      (wd_d (fn_Mo_stop (2 : Int32) (S.1 135 5) S) fun S64 =>
      fn_Mo_definition_25  S64))
  else
    fn_Mo_definition_25  S)
set_option maxRecDepth 100000 in
theorem sn_Mo_definition {L : Nat} {xs : Nat → Int32} {S : wd_S} {S' : wd_S} (h : fn_Mo_definition  S = some S') : ev_r tb_P L xs (8 + 1) 158 [.ref 135] (wd_k S) (.inl none, wd_k S') := by
  unfold fn_Mo_definition at h
  refine ev_of (Nat.le_of_ble_eq_true rfl) ?_
  show go_r tb_P L xs 8 158 0 [(0, .ref 135)] [] (wd_k S) (.inl none, wd_k S')
  refine bk_b (q := (1, [(0, .ref 135)], [.ref 135])) tb_c_158_0 mx_158 1 rfl ?_
  refine bk_gi tb_c_158_0 rfl rfl (ci := 11) (k := 9) rfl rfl rfl ?_
  by_cases g1 : (S.1 135 9) = 0
  · rw [if_pos g1] at h
    refine bk_zf tb_c_158_0 rfl (pc' := 7) rfl (t := 25) rfl (cm_ne_f g1) ?_
    refine bk_b (q := (8, [(0, .ref 135)], [.ref 135])) tb_c_158_0 mx_158 1 rfl ?_
    refine bk_gi tb_c_158_0 rfl rfl (ci := 11) (k := 4) rfl rfl rfl ?_
    refine bk_b (q := (13, [(0, .ref 135)], [.int (10 : Int32), .int (S.1 135 4)])) tb_c_158_0 mx_158 1 rfl ?_
    by_cases g63 : (S.1 135 4) = (10 : Int32)
    · rw [if_pos g63] at h
      refine bk_jt tb_c_158_0 rfl (pc' := 25) rfl (cm_eq_t g63) ?_
      exact go_lv (ls_sc rfl rfl ls_nil) (sn_Mo_definition_25 h)
    · rw [if_neg g63] at h
      refine bk_jf tb_c_158_0 rfl (pc' := 16) rfl (t := 25) rfl (cm_eq_f g63) ?_
      refine bk_b (q := (19, [(0, .ref 135)], [.ref 135, .int (2 : Int32), .ref 135])) tb_c_158_0 mx_158 3 rfl ?_
      refine bk_gi tb_c_158_0 rfl rfl (ci := 11) (k := 5) rfl rfl rfl ?_
      obtain ⟨S64, c66, h⟩ := wd_dx h
      refine bk_kv tb_c_158_0 rfl rfl rfl rfl rfl (ci := 11) rfl rfl (ev_up (Nat.le_of_ble_eq_true rfl) (sn_Mo_stop c66)) ?_
      exact go_lv (ls_sc rfl rfl ls_nil) (sn_Mo_definition_25 h)
  · rw [if_neg g1] at h
    refine bk_zt tb_c_158_0 rfl (pc' := 25) rfl (cm_ne_t g1) ?_
    exact go_lv (ls_sc rfl rfl ls_nil) (sn_Mo_definition_25 h)
