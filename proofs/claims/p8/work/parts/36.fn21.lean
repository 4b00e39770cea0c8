/-! Methods as functions: printed by wip/whole/gen_fn.py. -/
theorem mx_183 : mi_mx tb_P 183 = 11 := rfl
noncomputable def fn_Mo_onMaking_566 (S : wd_S) : Option wd_S :=
  some S
set_option maxRecDepth 100000 in
theorem sn_Mo_onMaking_566 {L : Nat} {xs : Nat → Int32} {S : wd_S} {S' : wd_S} (h : fn_Mo_onMaking_566  S = some S') : go_r tb_P L xs 4 183 566 [] [] (wd_k S) (.inl none, wd_k S') := by
  unfold fn_Mo_onMaking_566 at h
  cases h
  exact bk_t tb_c_183_7 rfl rfl
noncomputable def fn_Mo_onMaking_121 (l2 : Int32) (S : wd_S) : Option wd_S :=
  (wd_c (fn_Mo_nodeOf (S.1 135 79) S) fun x10 S9 =>
  (wd_c (fn_Mo_nodeOf ((S9.1 135 79) + (1 : Int32)) S9) fun x13 S12 =>
  (wd_c (fn_Mo_fresh (1 : Int32) S12) fun x16 S15 =>
  (if x16 < 0 ∨ 15010 ≤ x16.toNatClampNeg then none else
  (wd_b (wd_i S15 144 x16.toNatClampNeg x10) fun S19 =>
  (if x16 < 0 ∨ 15010 ≤ x16.toNatClampNeg then none else
  (wd_b (wd_i S19 145 x16.toNatClampNeg x13) fun S21 =>
  (if l2 < 0 ∨ 15010 ≤ l2.toNatClampNeg then none else
  (if x16 < 0 ∨ 15010 ≤ x16.toNatClampNeg then none else
  (wd_b (wd_i S21 146 x16.toNatClampNeg (S21.1 146 l2.toNatClampNeg)) fun S24 =>
  (wd_d (fn_Mo_gives (0 : Int32) x16 S24) fun S25 =>
  fn_Mo_onMaking_566  S25)))))))))))
set_option maxRecDepth 100000 in
theorem sn_Mo_onMaking_121 {L : Nat} {xs : Nat → Int32} {l2 : Int32} {S : wd_S} {S' : wd_S} (h : fn_Mo_onMaking_121 l2 S = some S') : go_r tb_P L xs 4 183 121 [(0, .ref 135), (2, .int l2)] [] (wd_k S) (.inl none, wd_k S') := by
  unfold fn_Mo_onMaking_121 at h
  refine bk_b (q := (123, [(0, .ref 135), (2, .int l2)], [.ref 135, .ref 135])) tb_c_183_1 mx_183 2 rfl ?_
  refine bk_gi tb_c_183_1 rfl rfl (ci := 11) (k := 79) rfl rfl rfl ?_
  obtain ⟨x10, S9, c11, h⟩ := wd_cx h
  refine bk_kv tb_c_183_1 rfl rfl rfl rfl rfl (ci := 11) rfl rfl (ev_up (Nat.le_of_ble_eq_true rfl) (sn_Mo_nodeOf c11)) ?_
  refine bk_b (q := (132, [(3, .int x10), (0, .ref 135), (2, .int l2)], [.ref 135, .ref 135])) tb_c_183_1 mx_183 3 rfl ?_
  refine bk_gi tb_c_183_1 rfl rfl (ci := 11) (k := 79) rfl rfl rfl ?_
  refine bk_b (q := (137, [(3, .int x10), (0, .ref 135), (2, .int l2)], [.int ((S9.1 135 79) + (1 : Int32)), .ref 135])) tb_c_183_1 mx_183 2 rfl ?_
  obtain ⟨x13, S12, c14, h⟩ := wd_cx h
  refine bk_kv tb_c_183_1 rfl rfl rfl rfl rfl (ci := 11) rfl rfl (ev_up (Nat.le_of_ble_eq_true rfl) (sn_Mo_nodeOf c14)) ?_
  refine bk_b (q := (144, [(4, .int x13), (3, .int x10), (0, .ref 135), (2, .int l2)], [.int (1 : Int32), .ref 135])) tb_c_183_1 mx_183 3 rfl ?_
  obtain ⟨x16, S15, c17, h⟩ := wd_cx h
  refine bk_kv tb_c_183_1 rfl rfl rfl rfl rfl (ci := 11) rfl rfl (ev_up (Nat.le_of_ble_eq_true rfl) (sn_Mo_fresh c17)) ?_
  refine bk_b (q := (150, [(5, .int x16), (4, .int x13), (3, .int x10), (0, .ref 135), (2, .int l2)], [.ref 135])) tb_c_183_1 mx_183 2 rfl ?_
  refine bk_gc tb_c_183_1 rfl rfl (ci := 11) (k := 18) rfl rfl rfl ?_
  refine bk_b (q := (156, [(5, .int x16), (4, .int x13), (3, .int x10), (0, .ref 135), (2, .int l2)], [.int x10, .int x16, .ref 144])) tb_c_183_1 mx_183 2 rfl ?_
  by_cases g18 : x16 < 0 ∨ 15010 ≤ x16.toNatClampNeg
  · rw [if_pos g18] at h; cases h
  · rw [if_neg g18] at h
    obtain ⟨S19, eS19, h⟩ := wd_bx h
    refine bk_s4 tb_c_183_1 rfl rfl rfl g18 ?_
    rw [eS19]
    refine bk_b (q := (158, [(5, .int x16), (4, .int x13), (3, .int x10), (0, .ref 135), (2, .int l2)], [.ref 135])) tb_c_183_1 mx_183 1 rfl ?_
    refine bk_gc tb_c_183_1 rfl rfl (ci := 11) (k := 19) rfl rfl rfl ?_
    refine bk_b (q := (165, [(5, .int x16), (4, .int x13), (3, .int x10), (0, .ref 135), (2, .int l2)], [.int x13, .int x16, .ref 145])) tb_c_183_1 mx_183 2 rfl ?_
    by_cases g20 : x16 < 0 ∨ 15010 ≤ x16.toNatClampNeg
    · rw [if_pos g20] at h; cases h
    · rw [if_neg g20] at h
      obtain ⟨S21, eS21, h⟩ := wd_bx h
      refine bk_s4 tb_c_183_1 rfl rfl rfl g20 ?_
      rw [eS21]
      refine bk_b (q := (167, [(5, .int x16), (4, .int x13), (3, .int x10), (0, .ref 135), (2, .int l2)], [.ref 135])) tb_c_183_1 mx_183 1 rfl ?_
      refine bk_gc tb_c_183_1 rfl rfl (ci := 11) (k := 20) rfl rfl rfl ?_
      refine bk_b (q := (173, [(5, .int x16), (4, .int x13), (3, .int x10), (0, .ref 135), (2, .int l2)], [.ref 135, .int x16, .ref 146])) tb_c_183_1 mx_183 2 rfl ?_
      refine bk_gc tb_c_183_1 rfl rfl (ci := 11) (k := 20) rfl rfl rfl ?_
      refine bk_b (q := (177, [(5, .int x16), (4, .int x13), (3, .int x10), (0, .ref 135), (2, .int l2)], [.int l2, .ref 146, .int x16, .ref 146])) tb_c_183_1 mx_183 1 rfl ?_
      by_cases g22 : l2 < 0 ∨ 15010 ≤ l2.toNatClampNeg
      · rw [if_pos g22] at h; cases h
      · rw [if_neg g22] at h
        refine bk_a4 tb_c_183_1 rfl rfl rfl g22 ?_
        by_cases g23 : x16 < 0 ∨ 15010 ≤ x16.toNatClampNeg
        · rw [if_pos g23] at h; cases h
        · rw [if_neg g23] at h
          obtain ⟨S24, eS24, h⟩ := wd_bx h
          refine bk_s4 tb_c_183_2 rfl rfl rfl g23 ?_
          rw [eS24]
          refine bk_b (q := (183, [(5, .int x16), (4, .int x13), (3, .int x10), (0, .ref 135), (2, .int l2)], [.int x16, .int (0 : Int32), .ref 135])) tb_c_183_2 mx_183 3 rfl ?_
          obtain ⟨S25, c27, h⟩ := wd_dx h
          refine bk_kv tb_c_183_2 rfl rfl rfl rfl rfl (ci := 11) rfl rfl (ev_up (Nat.le_of_ble_eq_true rfl) (sn_Mo_gives c27)) ?_
          refine bk_b (q := (566, [(5, .int x16), (4, .int x13), (3, .int x10), (0, .ref 135), (2, .int l2)], [])) tb_c_183_2 mx_183 1 rfl ?_
          exact go_lv ls_nil (sn_Mo_onMaking_566 h)
noncomputable def fn_Mo_onMaking_242 (s1 : Int32) (s2 : Int32) (S : wd_S) : Option wd_S :=
  (wd_d (fn_Mo_later s1 s2 S) fun S57 =>
  fn_Mo_onMaking_566  S57)
set_option maxRecDepth 100000 in
theorem sn_Mo_onMaking_242 {L : Nat} {xs : Nat → Int32} {s1 : Int32} {s2 : Int32} {S : wd_S} {S' : wd_S} (h : fn_Mo_onMaking_242 s1 s2 S = some S') : go_r tb_P L xs 4 183 242 [] [.int s2, .int s1, .ref 135] (wd_k S) (.inl none, wd_k S') := by
  unfold fn_Mo_onMaking_242 at h
  obtain ⟨S57, c59, h⟩ := wd_dx h
  refine bk_kv tb_c_183_2 rfl rfl rfl rfl rfl (ci := 11) rfl rfl (ev_up (Nat.le_of_ble_eq_true rfl) (sn_Mo_later c59)) ?_
  refine bk_b (q := (566, [], [])) tb_c_183_2 mx_183 1 rfl ?_
  exact go_lv ls_nil (sn_Mo_onMaking_566 h)
noncomputable def fn_Mo_onMaking_457 (l2 : Int32) (S : wd_S) : Option wd_S :=
  (if l2 < 0 ∨ 15010 ≤ l2.toNatClampNeg then none else
  (wd_d (fn_Mo_later (1 : Int32) (S.1 145 l2.toNatClampNeg) S) fun S120 =>
  fn_Mo_onMaking_566  S120))
set_option maxRecDepth 100000 in
theorem sn_Mo_onMaking_457 {L : Nat} {xs : Nat → Int32} {l2 : Int32} {S : wd_S} {S' : wd_S} (h : fn_Mo_onMaking_457 l2 S = some S') : go_r tb_P L xs 4 183 457 [(0, .ref 135), (2, .int l2)] [] (wd_k S) (.inl none, wd_k S') := by
  unfold fn_Mo_onMaking_457 at h
  refine bk_b (q := (460, [(0, .ref 135), (2, .int l2)], [.ref 135, .int (1 : Int32), .ref 135])) tb_c_183_6 mx_183 3 rfl ?_
  refine bk_gc tb_c_183_6 rfl rfl (ci := 11) (k := 19) rfl rfl rfl ?_
  refine bk_b (q := (464, [(0, .ref 135), (2, .int l2)], [.int l2, .ref 145, .int (1 : Int32), .ref 135])) tb_c_183_6 mx_183 1 rfl ?_
  by_cases g119 : l2 < 0 ∨ 15010 ≤ l2.toNatClampNeg
  · rw [if_pos g119] at h; cases h
  · rw [if_neg g119] at h
    refine bk_a4 tb_c_183_6 rfl rfl rfl g119 ?_
    obtain ⟨S120, c122, h⟩ := wd_dx h
    refine bk_kv tb_c_183_6 rfl rfl rfl rfl rfl (ci := 11) rfl rfl (ev_up (Nat.le_of_ble_eq_true rfl) (sn_Mo_later c122)) ?_
    refine bk_b (q := (566, [(0, .ref 135), (2, .int l2)], [])) tb_c_183_6 mx_183 1 rfl ?_
    exact go_lv ls_nil (sn_Mo_onMaking_566 h)
noncomputable def fn_Mo_onMaking_442 (l2 : Int32) (l7 : Int32) (s1 : Int32) (s2 : Int32) (S : wd_S) : Option wd_S :=
  (wd_b (wd_i S 135 79 (s1 - s2)) fun S117 =>
  (if l7 = 0 then
    (wd_d (fn_Mo_later (5 : Int32) l2 S117) fun S123 =>
    fn_Mo_onMaking_457 l2 S123)
  else
    fn_Mo_onMaking_457 l2 S117))
set_option maxRecDepth 100000 in
theorem sn_Mo_onMaking_442 {L : Nat} {xs : Nat → Int32} {l2 : Int32} {l7 : Int32} {s1 : Int32} {s2 : Int32} {S : wd_S} {S' : wd_S} (h : fn_Mo_onMaking_442 l2 l7 s1 s2 S = some S') : go_r tb_P L xs 4 183 442 [(0, .ref 135), (2, .int l2), (7, .int l7)] [.int s2, .int s1, .ref 135] (wd_k S) (.inl none, wd_k S') := by
  unfold fn_Mo_onMaking_442 at h
  refine bk_b (q := (443, [(0, .ref 135), (2, .int l2), (7, .int l7)], [.int (s1 - s2), .ref 135])) tb_c_183_5 mx_183 1 rfl ?_
  obtain ⟨S117, eS117, h⟩ := wd_bx h
  refine bk_pi tb_c_183_5 rfl rfl (ci := 11) (k := 79) rfl rfl rfl rfl ?_
  rw [eS117]
  refine bk_b (q := (448, [(0, .ref 135), (2, .int l2), (7, .int l7)], [.int l7])) tb_c_183_5 mx_183 1 rfl ?_
  by_cases g118 : l7 = 0
  · rw [if_pos g118] at h
    refine bk_zf tb_c_183_5 rfl (pc' := 451) rfl (t := 457) rfl (cm_ne_f g118) ?_
    refine bk_b (q := (454, [(0, .ref 135), (2, .int l2), (7, .int l7)], [.int l2, .int (5 : Int32), .ref 135])) tb_c_183_5 mx_183 3 rfl ?_
    obtain ⟨S123, c125, h⟩ := wd_dx h
    refine bk_kv tb_c_183_5 rfl rfl rfl rfl rfl (ci := 11) rfl rfl (ev_up (Nat.le_of_ble_eq_true rfl) (sn_Mo_later c125)) ?_
    exact go_lv (ls_sc rfl rfl (ls_sc rfl rfl ls_nil)) (sn_Mo_onMaking_457 h)
  · rw [if_neg g118] at h
    refine bk_zt tb_c_183_5 rfl (pc' := 457) rfl (cm_ne_t g118) ?_
    exact go_lv (ls_sc rfl rfl (ls_sc rfl rfl ls_nil)) (sn_Mo_onMaking_457 h)
noncomputable def fn_Mo_onMaking_426 (l2 : Int32) (l7 : Int32) (s1 : Int32) (s2 : Int32) (S : wd_S) : Option wd_S :=
  (if s1 < 0 ∨ 16 ≤ s1.toNatClampNeg then none else
  (wd_b (wd_i S 170 s1.toNatClampNeg s2) fun S115 =>
  (if l7 = 0 then
    fn_Mo_onMaking_442 l2 l7 (S115.1 135 79) (0 : Int32) S115
  else
    fn_Mo_onMaking_442 l2 l7 (S115.1 135 79) (1 : Int32) S115)))
set_option maxRecDepth 100000 in
theorem sn_Mo_onMaking_426 {L : Nat} {xs : Nat → Int32} {l2 : Int32} {l7 : Int32} {s1 : Int32} {s2 : Int32} {S : wd_S} {S' : wd_S} (h : fn_Mo_onMaking_426 l2 l7 s1 s2 S = some S') : go_r tb_P L xs 4 183 426 [(0, .ref 135), (2, .int l2), (7, .int l7)] [.int s2, .int s1, .ref 170] (wd_k S) (.inl none, wd_k S') := by
  unfold fn_Mo_onMaking_426 at h
  by_cases g114 : s1 < 0 ∨ 16 ≤ s1.toNatClampNeg
  · rw [if_pos g114] at h; cases h
  · rw [if_neg g114] at h
    obtain ⟨S115, eS115, h⟩ := wd_bx h
    refine bk_s4 tb_c_183_5 rfl rfl rfl g114 ?_
    rw [eS115]
    refine bk_b (q := (429, [(0, .ref 135), (2, .int l2), (7, .int l7)], [.ref 135, .ref 135])) tb_c_183_5 mx_183 2 rfl ?_
    refine bk_gi tb_c_183_5 rfl rfl (ci := 11) (k := 79) rfl rfl rfl ?_
    refine bk_b (q := (434, [(0, .ref 135), (2, .int l2), (7, .int l7)], [.int l7, .int (S115.1 135 79), .ref 135])) tb_c_183_5 mx_183 1 rfl ?_
    by_cases g116 : l7 = 0
    · rw [if_pos g116] at h
      refine bk_zt tb_c_183_5 rfl (pc' := 441) rfl (cm_eq_t g116) ?_
      refine bk_b (q := (442, [(0, .ref 135), (2, .int l2), (7, .int l7)], [.int (0 : Int32), .int (S115.1 135 79), .ref 135])) tb_c_183_5 mx_183 1 rfl ?_
      exact go_lv (ls_sc rfl rfl (ls_sc rfl rfl (ls_sc rfl rfl ls_nil))) (sn_Mo_onMaking_442 h)
    · rw [if_neg g116] at h
      refine bk_zf tb_c_183_5 rfl (pc' := 437) rfl (t := 441) rfl (cm_eq_f g116) ?_
      refine bk_b (q := (442, [(0, .ref 135), (2, .int l2), (7, .int l7)], [.int (1 : Int32), .int (S115.1 135 79), .ref 135])) tb_c_183_5 mx_183 2 rfl ?_
      exact go_lv (ls_sc rfl rfl (ls_sc rfl rfl (ls_sc rfl rfl ls_nil))) (sn_Mo_onMaking_442 h)
/-- SpecialiserModel.onMaking(II)V -/
noncomputable def fn_Mo_onMaking (p1 : Int32) (p2 : Int32) (S : wd_S) : Option wd_S :=
  (if p1 = (1 : Int32) then
    (wd_d (fn_Mo_onEv p2 S) fun S2 =>
    fn_Mo_onMaking_566  S2)
  else
  (if p1 = (2 : Int32) then
    (wd_b (wd_i S 135 79 ((S.1 135 79) - (2 : Int32))) fun S6 =>
    (if (S6.1 135 79) < 0 ∨ 4000 ≤ (S6.1 135 79).toNatClampNeg then none else
    (if (S6.1 167 (S6.1 135 79).toNatClampNeg) = 0 then
      fn_Mo_onMaking_121 p2 S6
    else
      (if ((S6.1 135 79) + (1 : Int32)) < 0 ∨ 4000 ≤ ((S6.1 135 79) + (1 : Int32)).toNatClampNeg then none else
      (if (S6.1 167 ((S6.1 135 79) + (1 : Int32)).toNatClampNeg) = 0 then
        fn_Mo_onMaking_121 p2 S6
      else
        (if p2 < 0 ∨ 15010 ≤ p2.toNatClampNeg then none else
        (if (S6.1 135 79) < 0 ∨ 4000 ≤ (S6.1 135 79).toNatClampNeg then none else
        (if ((S6.1 135 79) + (1 : Int32)) < 0 ∨ 4000 ≤ ((S6.1 135 79) + (1 : Int32)).toNatClampNeg then none else
        (wd_c (fn_Mo_applied (S6.1 146 p2.toNatClampNeg) (S6.1 168 (S6.1 135 79).toNatClampNeg) (S6.1 168 ((S6.1 135 79) + (1 : Int32)).toNatClampNeg) S6) fun x34 S33 =>
        (wd_d (fn_Mo_gives (1 : Int32) x34 S33) fun S36 =>
        fn_Mo_onMaking_566  S36))))))))))
  else
  (if p1 = (3 : Int32) then
    (if ((S.1 135 79) - (1 : Int32)) < 0 ∨ 4000 ≤ ((S.1 135 79) - (1 : Int32)).toNatClampNeg then none else
    (if (S.1 167 ((S.1 135 79) - (1 : Int32)).toNatClampNeg) = 0 then
      (wd_d (fn_Mo_later (4 : Int32) p2 S) fun S42 =>
      (if p2 < 0 ∨ 15010 ≤ p2.toNatClampNeg then none else
      (wd_d (fn_Mo_later (1 : Int32) (S42.1 146 p2.toNatClampNeg) S42) fun S46 =>
      (if p2 < 0 ∨ 15010 ≤ p2.toNatClampNeg then none else
      (wd_d (fn_Mo_later (1 : Int32) (S46.1 145 p2.toNatClampNeg) S46) fun S50 =>
      fn_Mo_onMaking_566  S50)))))
    else
      (wd_b (wd_i S 135 79 ((S.1 135 79) - (1 : Int32))) fun S53 =>
      (if (S53.1 135 79) < 0 ∨ 4000 ≤ (S53.1 135 79).toNatClampNeg then none else
      (if (S53.1 168 (S53.1 135 79).toNatClampNeg) = 0 then
        (if p2 < 0 ∨ 15010 ≤ p2.toNatClampNeg then none else
        fn_Mo_onMaking_242 (1 : Int32) (S53.1 146 p2.toNatClampNeg) S53)
      else
        (if p2 < 0 ∨ 15010 ≤ p2.toNatClampNeg then none else
        fn_Mo_onMaking_242 (1 : Int32) (S53.1 145 p2.toNatClampNeg) S53))))))
  else
  (if p1 = (4 : Int32) then
    (wd_b (wd_i S 135 79 ((S.1 135 79) - (3 : Int32))) fun S62 =>
    (wd_c (fn_Mo_nodeOf (S62.1 135 79) S62) fun x64 S63 =>
    (wd_c (fn_Mo_nodeOf ((S63.1 135 79) + (1 : Int32)) S63) fun x67 S66 =>
    (wd_c (fn_Mo_nodeOf ((S66.1 135 79) + (2 : Int32)) S66) fun x70 S69 =>
    (wd_c (fn_Mo_fresh (2 : Int32) S69) fun x73 S72 =>
    (if x73 < 0 ∨ 15010 ≤ x73.toNatClampNeg then none else
    (wd_b (wd_i S72 144 x73.toNatClampNeg x64) fun S76 =>
    (if x73 < 0 ∨ 15010 ≤ x73.toNatClampNeg then none else
    (wd_b (wd_i S76 145 x73.toNatClampNeg x67) fun S78 =>
    (if x73 < 0 ∨ 15010 ≤ x73.toNatClampNeg then none else
    (wd_b (wd_i S78 146 x73.toNatClampNeg x70) fun S80 =>
    (wd_d (fn_Mo_gives (0 : Int32) x73 S80) fun S81 =>
    fn_Mo_onMaking_566  S81))))))))))))
  else
  (if p1 = (5 : Int32) then
    (wd_b (wd_i S 135 79 ((S.1 135 79) - (2 : Int32))) fun S85 =>
    (wd_c (fn_Mo_nodeOf (S85.1 135 79) S85) fun x87 S86 =>
    (wd_c (fn_Mo_nodeOf ((S86.1 135 79) + (1 : Int32)) S86) fun x90 S89 =>
    (wd_c (fn_Mo_fresh (3 : Int32) S89) fun x93 S92 =>
    (if x93 < 0 ∨ 15010 ≤ x93.toNatClampNeg then none else
    (wd_b (wd_i S92 144 x93.toNatClampNeg x87) fun S96 =>
    (if x93 < 0 ∨ 15010 ≤ x93.toNatClampNeg then none else
    (wd_b (wd_i S96 145 x93.toNatClampNeg x90) fun S98 =>
    (if p2 < 0 ∨ 15010 ≤ p2.toNatClampNeg then none else
    (if x93 < 0 ∨ 15010 ≤ x93.toNatClampNeg then none else
    (wd_b (wd_i S98 146 x93.toNatClampNeg (S98.1 146 p2.toNatClampNeg)) fun S101 =>
    (wd_b (wd_i S101 135 70 ((S101.1 135 70) + (1 : Int32))) fun S102 =>
    (wd_d (fn_Mo_gives (0 : Int32) x93 S102) fun S103 =>
    fn_Mo_onMaking_566  S103)))))))))))))
  else
  (if p1 = (6 : Int32) then
    (if ((S.1 135 79) - (1 : Int32)) < 0 ∨ 4000 ≤ ((S.1 135 79) - (1 : Int32)).toNatClampNeg then none else
    (if p2 < 0 ∨ 15010 ≤ p2.toNatClampNeg then none else
    (if ((S.1 146 p2.toNatClampNeg) < 0 ∨ 16 ≤ (S.1 146 p2.toNatClampNeg).toNatClampNeg) ∨ ¬mi_fit .boolean (.int (S.1 167 ((S.1 135 79) - (1 : Int32)).toNatClampNeg)) = true then none else
    (wd_b (wd_i S 169 (S.1 146 p2.toNatClampNeg).toNatClampNeg (S.1 167 ((S.1 135 79) - (1 : Int32)).toNatClampNeg)) fun S110 =>
    (if p2 < 0 ∨ 15010 ≤ p2.toNatClampNeg then none else
    (if (S.1 167 ((S.1 135 79) - (1 : Int32)).toNatClampNeg) = 0 then
      (if p2 < 0 ∨ 15010 ≤ p2.toNatClampNeg then none else
      fn_Mo_onMaking_426 p2 (S.1 167 ((S.1 135 79) - (1 : Int32)).toNatClampNeg) (S110.1 146 p2.toNatClampNeg) (S110.1 146 p2.toNatClampNeg) S110)
    else
      (if ((S110.1 135 79) - (1 : Int32)) < 0 ∨ 4000 ≤ ((S110.1 135 79) - (1 : Int32)).toNatClampNeg then none else
      fn_Mo_onMaking_426 p2 (S.1 167 ((S.1 135 79) - (1 : Int32)).toNatClampNeg) (S110.1 146 p2.toNatClampNeg) (S110.1 168 ((S110.1 135 79) - (1 : Int32)).toNatClampNeg) S110)))))))
  else
  (wd_d (fn_Mo_onCalled p2 S) fun S127 =>
  fn_Mo_onMaking_566  S127)))))))
set_option maxRecDepth 100000 in
theorem sn_Mo_onMaking {L : Nat} {xs : Nat → Int32} {p1 : Int32} {p2 : Int32} {S : wd_S} {S' : wd_S} (h : fn_Mo_onMaking p1 p2 S = some S') : ev_r tb_P L xs (4 + 1) 183 [.ref 135, .int p1, .int p2] (wd_k S) (.inl none, wd_k S') := by
  unfold fn_Mo_onMaking at h
  refine ev_of (Nat.le_of_ble_eq_true rfl) ?_
  show go_r tb_P L xs 4 183 0 [(0, .ref 135), (1, .int p1), (2, .int p2)] [] (wd_k S) (.inl none, wd_k S')
  refine bk_b (q := (1, [(0, .ref 135), (1, .int p1), (2, .int p2)], [.int p1])) tb_c_183_0 mx_183 1 rfl ?_
  by_cases g1 : p1 = (1 : Int32)
  · rw [if_pos g1] at h
    refine bk_sw tb_c_183_0 rfl (pc' := 40) (by rw [g1]; rfl) ?_
    refine bk_b (q := (42, [(0, .ref 135), (1, .int p1), (2, .int p2)], [.int p2, .ref 135])) tb_c_183_0 mx_183 2 rfl ?_
    obtain ⟨S2, c4, h⟩ := wd_dx h
    refine bk_kv tb_c_183_0 rfl rfl rfl rfl rfl (ci := 11) rfl rfl (ev_up (Nat.le_of_ble_eq_true rfl) (sn_Mo_onEv c4)) ?_
    refine bk_b (q := (566, [(0, .ref 135), (1, .int p1), (2, .int p2)], [])) tb_c_183_0 mx_183 1 rfl ?_
    exact go_lv ls_nil (sn_Mo_onMaking_566 h)
  · rw [if_neg g1] at h
    by_cases g5 : p1 = (2 : Int32)
    · rw [if_pos g5] at h
      refine bk_sw tb_c_183_0 rfl (pc' := 48) (by rw [g5]; rfl) ?_
      refine bk_b (q := (50, [(0, .ref 135), (1, .int p1), (2, .int p2)], [.ref 135, .ref 135])) tb_c_183_0 mx_183 2 rfl ?_
      refine bk_gi tb_c_183_0 rfl rfl (ci := 11) (k := 79) rfl rfl rfl ?_
      refine bk_b (q := (55, [(0, .ref 135), (1, .int p1), (2, .int p2)], [.int ((S.1 135 79) - (2 : Int32)), .ref 135])) tb_c_183_0 mx_183 2 rfl ?_
      obtain ⟨S6, eS6, h⟩ := wd_bx h
      refine bk_pi tb_c_183_0 rfl rfl (ci := 11) (k := 79) rfl rfl rfl rfl ?_
      rw [eS6]
      refine bk_b (q := (59, [(0, .ref 135), (1, .int p1), (2, .int p2)], [.ref 135])) tb_c_183_0 mx_183 1 rfl ?_
      refine bk_gc tb_c_183_0 rfl rfl (ci := 11) (k := 77) rfl rfl rfl ?_
      refine bk_b (q := (63, [(0, .ref 135), (1, .int p1), (2, .int p2)], [.ref 135, .ref 167])) tb_c_183_0 mx_183 1 rfl ?_
      refine bk_gi tb_c_183_0 rfl rfl (ci := 11) (k := 79) rfl rfl rfl ?_
      by_cases g7 : (S6.1 135 79) < 0 ∨ 4000 ≤ (S6.1 135 79).toNatClampNeg
      · rw [if_pos g7] at h; cases h
      · rw [if_neg g7] at h
        refine bk_a1 tb_c_183_0 rfl rfl rfl g7 ?_
        by_cases g8 : (S6.1 167 (S6.1 135 79).toNatClampNeg) = 0
        · rw [if_pos g8] at h
          refine bk_zt tb_c_183_0 rfl (pc' := 121) rfl (cm_eq_t g8) ?_
          exact go_lv (ls_sc rfl rfl (ls_sc rfl rfl ls_nil)) (sn_Mo_onMaking_121 h)
        · rw [if_neg g8] at h
          refine bk_zf tb_c_183_0 rfl (pc' := 70) rfl (t := 121) rfl (cm_eq_f g8) ?_
          refine bk_b (q := (71, [(0, .ref 135), (1, .int p1), (2, .int p2)], [.ref 135])) tb_c_183_0 mx_183 1 rfl ?_
          refine bk_gc tb_c_183_0 rfl rfl (ci := 11) (k := 77) rfl rfl rfl ?_
          refine bk_b (q := (75, [(0, .ref 135), (1, .int p1), (2, .int p2)], [.ref 135, .ref 167])) tb_c_183_0 mx_183 1 rfl ?_
          refine bk_gi tb_c_183_0 rfl rfl (ci := 11) (k := 79) rfl rfl rfl ?_
          refine bk_b (q := (80, [(0, .ref 135), (1, .int p1), (2, .int p2)], [.int ((S6.1 135 79) + (1 : Int32)), .ref 167])) tb_c_183_0 mx_183 2 rfl ?_
          by_cases g28 : ((S6.1 135 79) + (1 : Int32)) < 0 ∨ 4000 ≤ ((S6.1 135 79) + (1 : Int32)).toNatClampNeg
          · rw [if_pos g28] at h; cases h
          · rw [if_neg g28] at h
            refine bk_a1 tb_c_183_0 rfl rfl rfl g28 ?_
            by_cases g29 : (S6.1 167 ((S6.1 135 79) + (1 : Int32)).toNatClampNeg) = 0
            · rw [if_pos g29] at h
              refine bk_zt tb_c_183_0 rfl (pc' := 121) rfl (cm_eq_t g29) ?_
              exact go_lv (ls_sc rfl rfl (ls_sc rfl rfl ls_nil)) (sn_Mo_onMaking_121 h)
            · rw [if_neg g29] at h
              refine bk_zf tb_c_183_0 rfl (pc' := 84) rfl (t := 121) rfl (cm_eq_f g29) ?_
              refine bk_b (q := (87, [(0, .ref 135), (1, .int p1), (2, .int p2)], [.ref 135, .int (1 : Int32), .ref 135])) tb_c_183_0 mx_183 3 rfl ?_
              refine bk_gc tb_c_183_0 rfl rfl (ci := 11) (k := 20) rfl rfl rfl ?_
              refine bk_b (q := (91, [(0, .ref 135), (1, .int p1), (2, .int p2)], [.int p2, .ref 146, .int (1 : Int32), .ref 135])) tb_c_183_0 mx_183 1 rfl ?_
              by_cases g30 : p2 < 0 ∨ 15010 ≤ p2.toNatClampNeg
              · rw [if_pos g30] at h; cases h
              · rw [if_neg g30] at h
                refine bk_a4 tb_c_183_0 rfl rfl rfl g30 ?_
                refine bk_b (q := (93, [(0, .ref 135), (1, .int p1), (2, .int p2)], [.ref 135, .int (S6.1 146 p2.toNatClampNeg), .int (1 : Int32), .ref 135])) tb_c_183_0 mx_183 1 rfl ?_
                refine bk_gc tb_c_183_0 rfl rfl (ci := 11) (k := 78) rfl rfl rfl ?_
                refine bk_b (q := (97, [(0, .ref 135), (1, .int p1), (2, .int p2)], [.ref 135, .ref 168, .int (S6.1 146 p2.toNatClampNeg), .int (1 : Int32), .ref 135])) tb_c_183_0 mx_183 1 rfl ?_
                refine bk_gi tb_c_183_0 rfl rfl (ci := 11) (k := 79) rfl rfl rfl ?_
                by_cases g31 : (S6.1 135 79) < 0 ∨ 4000 ≤ (S6.1 135 79).toNatClampNeg
                · rw [if_pos g31] at h; cases h
                · rw [if_neg g31] at h
                  refine bk_a4 tb_c_183_0 rfl rfl rfl g31 ?_
                  refine bk_b (q := (102, [(0, .ref 135), (1, .int p1), (2, .int p2)], [.ref 135, .int (S6.1 168 (S6.1 135 79).toNatClampNeg), .int (S6.1 146 p2.toNatClampNeg), .int (1 : Int32), .ref 135])) tb_c_183_0 mx_183 1 rfl ?_
                  refine bk_gc tb_c_183_0 rfl rfl (ci := 11) (k := 78) rfl rfl rfl ?_
                  refine bk_b (q := (106, [(0, .ref 135), (1, .int p1), (2, .int p2)], [.ref 135, .ref 168, .int (S6.1 168 (S6.1 135 79).toNatClampNeg), .int (S6.1 146 p2.toNatClampNeg), .int (1 : Int32), .ref 135])) tb_c_183_0 mx_183 1 rfl ?_
                  refine bk_gi tb_c_183_1 rfl rfl (ci := 11) (k := 79) rfl rfl rfl ?_
                  refine bk_b (q := (111, [(0, .ref 135), (1, .int p1), (2, .int p2)], [.int ((S6.1 135 79) + (1 : Int32)), .ref 168, .int (S6.1 168 (S6.1 135 79).toNatClampNeg), .int (S6.1 146 p2.toNatClampNeg), .int (1 : Int32), .ref 135])) tb_c_183_1 mx_183 2 rfl ?_
                  by_cases g32 : ((S6.1 135 79) + (1 : Int32)) < 0 ∨ 4000 ≤ ((S6.1 135 79) + (1 : Int32)).toNatClampNeg
                  · rw [if_pos g32] at h; cases h
                  · rw [if_neg g32] at h
                    refine bk_a4 tb_c_183_1 rfl rfl rfl g32 ?_
                    obtain ⟨x34, S33, c35, h⟩ := wd_cx h
                    refine bk_ks tb_c_183_1 rfl rfl rfl (by decide) rfl rfl (ev_up (Nat.le_of_ble_eq_true rfl) (sn_Mo_applied c35)) ?_
                    obtain ⟨S36, c38, h⟩ := wd_dx h
                    refine bk_kv tb_c_183_1 rfl rfl rfl rfl rfl (ci := 11) rfl rfl (ev_up (Nat.le_of_ble_eq_true rfl) (sn_Mo_gives c38)) ?_
                    refine bk_b (q := (566, [(0, .ref 135), (1, .int p1), (2, .int p2)], [])) tb_c_183_1 mx_183 1 rfl ?_
                    exact go_lv ls_nil (sn_Mo_onMaking_566 h)
    · rw [if_neg g5] at h
      by_cases g39 : p1 = (3 : Int32)
      · rw [if_pos g39] at h
        refine bk_sw tb_c_183_0 rfl (pc' := 189) (by rw [g39]; rfl) ?_
        refine bk_b (q := (190, [(0, .ref 135), (1, .int p1), (2, .int p2)], [.ref 135])) tb_c_183_2 mx_183 1 rfl ?_
        refine bk_gc tb_c_183_2 rfl rfl (ci := 11) (k := 77) rfl rfl rfl ?_
        refine bk_b (q := (194, [(0, .ref 135), (1, .int p1), (2, .int p2)], [.ref 135, .ref 167])) tb_c_183_2 mx_183 1 rfl ?_
        refine bk_gi tb_c_183_2 rfl rfl (ci := 11) (k := 79) rfl rfl rfl ?_
        refine bk_b (q := (199, [(0, .ref 135), (1, .int p1), (2, .int p2)], [.int ((S.1 135 79) - (1 : Int32)), .ref 167])) tb_c_183_2 mx_183 2 rfl ?_
        by_cases g40 : ((S.1 135 79) - (1 : Int32)) < 0 ∨ 4000 ≤ ((S.1 135 79) - (1 : Int32)).toNatClampNeg
        · rw [if_pos g40] at h; cases h
        · rw [if_neg g40] at h
          refine bk_a1 tb_c_183_2 rfl rfl rfl g40 ?_
          by_cases g41 : (S.1 167 ((S.1 135 79) - (1 : Int32)).toNatClampNeg) = 0
          · rw [if_pos g41] at h
            refine bk_zt tb_c_183_2 rfl (pc' := 248) rfl (cm_eq_t g41) ?_
            refine bk_b (q := (249, [(0, .ref 135), (1, .int p1), (2, .int p2)], [.ref 135])) tb_c_183_2 mx_183 1 rfl ?_
            refine bk_b (q := (251, [(0, .ref 135), (1, .int p1), (2, .int p2)], [.int p2, .int (4 : Int32), .ref 135])) tb_c_183_3 mx_183 2 rfl ?_
            obtain ⟨S42, c44, h⟩ := wd_dx h
            refine bk_kv tb_c_183_3 rfl rfl rfl rfl rfl (ci := 11) rfl rfl (ev_up (Nat.le_of_ble_eq_true rfl) (sn_Mo_later c44)) ?_
            refine bk_b (q := (257, [(0, .ref 135), (1, .int p1), (2, .int p2)], [.ref 135, .int (1 : Int32), .ref 135])) tb_c_183_3 mx_183 3 rfl ?_
            refine bk_gc tb_c_183_3 rfl rfl (ci := 11) (k := 20) rfl rfl rfl ?_
            refine bk_b (q := (261, [(0, .ref 135), (1, .int p1), (2, .int p2)], [.int p2, .ref 146, .int (1 : Int32), .ref 135])) tb_c_183_3 mx_183 1 rfl ?_
            by_cases g45 : p2 < 0 ∨ 15010 ≤ p2.toNatClampNeg
            · rw [if_pos g45] at h; cases h
            · rw [if_neg g45] at h
              refine bk_a4 tb_c_183_3 rfl rfl rfl g45 ?_
              obtain ⟨S46, c48, h⟩ := wd_dx h
              refine bk_kv tb_c_183_3 rfl rfl rfl rfl rfl (ci := 11) rfl rfl (ev_up (Nat.le_of_ble_eq_true rfl) (sn_Mo_later c48)) ?_
              refine bk_b (q := (268, [(0, .ref 135), (1, .int p1), (2, .int p2)], [.ref 135, .int (1 : Int32), .ref 135])) tb_c_183_3 mx_183 3 rfl ?_
              refine bk_gc tb_c_183_3 rfl rfl (ci := 11) (k := 19) rfl rfl rfl ?_
              refine bk_b (q := (272, [(0, .ref 135), (1, .int p1), (2, .int p2)], [.int p2, .ref 145, .int (1 : Int32), .ref 135])) tb_c_183_3 mx_183 1 rfl ?_
              by_cases g49 : p2 < 0 ∨ 15010 ≤ p2.toNatClampNeg
              · rw [if_pos g49] at h; cases h
              · rw [if_neg g49] at h
                refine bk_a4 tb_c_183_3 rfl rfl rfl g49 ?_
                obtain ⟨S50, c52, h⟩ := wd_dx h
                refine bk_kv tb_c_183_3 rfl rfl rfl rfl rfl (ci := 11) rfl rfl (ev_up (Nat.le_of_ble_eq_true rfl) (sn_Mo_later c52)) ?_
                refine bk_b (q := (566, [(0, .ref 135), (1, .int p1), (2, .int p2)], [])) tb_c_183_3 mx_183 1 rfl ?_
                exact go_lv ls_nil (sn_Mo_onMaking_566 h)
          · rw [if_neg g41] at h
            refine bk_zf tb_c_183_2 rfl (pc' := 203) rfl (t := 248) rfl (cm_eq_f g41) ?_
            refine bk_b (q := (205, [(0, .ref 135), (1, .int p1), (2, .int p2)], [.ref 135, .ref 135])) tb_c_183_2 mx_183 2 rfl ?_
            refine bk_gi tb_c_183_2 rfl rfl (ci := 11) (k := 79) rfl rfl rfl ?_
            refine bk_b (q := (210, [(0, .ref 135), (1, .int p1), (2, .int p2)], [.int ((S.1 135 79) - (1 : Int32)), .ref 135])) tb_c_183_2 mx_183 2 rfl ?_
            obtain ⟨S53, eS53, h⟩ := wd_bx h
            refine bk_pi tb_c_183_2 rfl rfl (ci := 11) (k := 79) rfl rfl rfl rfl ?_
            rw [eS53]
            refine bk_b (q := (216, [(0, .ref 135), (1, .int p1), (2, .int p2)], [.ref 135, .int (1 : Int32), .ref 135])) tb_c_183_2 mx_183 3 rfl ?_
            refine bk_gc tb_c_183_2 rfl rfl (ci := 11) (k := 78) rfl rfl rfl ?_
            refine bk_b (q := (220, [(0, .ref 135), (1, .int p1), (2, .int p2)], [.ref 135, .ref 168, .int (1 : Int32), .ref 135])) tb_c_183_2 mx_183 1 rfl ?_
            refine bk_gi tb_c_183_2 rfl rfl (ci := 11) (k := 79) rfl rfl rfl ?_
            by_cases g54 : (S53.1 135 79) < 0 ∨ 4000 ≤ (S53.1 135 79).toNatClampNeg
            · rw [if_pos g54] at h; cases h
            · rw [if_neg g54] at h
              refine bk_a4 tb_c_183_2 rfl rfl rfl g54 ?_
              by_cases g55 : (S53.1 168 (S53.1 135 79).toNatClampNeg) = 0
              · rw [if_pos g55] at h
                refine bk_zf tb_c_183_2 rfl (pc' := 227) rfl (t := 236) rfl (cm_ne_f g55) ?_
                refine bk_b (q := (228, [(0, .ref 135), (1, .int p1), (2, .int p2)], [.ref 135, .int (1 : Int32), .ref 135])) tb_c_183_2 mx_183 1 rfl ?_
                refine bk_gc tb_c_183_2 rfl rfl (ci := 11) (k := 20) rfl rfl rfl ?_
                refine bk_b (q := (232, [(0, .ref 135), (1, .int p1), (2, .int p2)], [.int p2, .ref 146, .int (1 : Int32), .ref 135])) tb_c_183_2 mx_183 1 rfl ?_
                by_cases g60 : p2 < 0 ∨ 15010 ≤ p2.toNatClampNeg
                · rw [if_pos g60] at h; cases h
                · rw [if_neg g60] at h
                  refine bk_a4 tb_c_183_2 rfl rfl rfl g60 ?_
                  refine bk_b (q := (242, [(0, .ref 135), (1, .int p1), (2, .int p2)], [.int (S53.1 146 p2.toNatClampNeg), .int (1 : Int32), .ref 135])) tb_c_183_2 mx_183 1 rfl ?_
                  exact go_lv ls_nil (sn_Mo_onMaking_242 h)
              · rw [if_neg g55] at h
                refine bk_zt tb_c_183_2 rfl (pc' := 236) rfl (cm_ne_t g55) ?_
                refine bk_b (q := (237, [(0, .ref 135), (1, .int p1), (2, .int p2)], [.ref 135, .int (1 : Int32), .ref 135])) tb_c_183_2 mx_183 1 rfl ?_
                refine bk_gc tb_c_183_2 rfl rfl (ci := 11) (k := 19) rfl rfl rfl ?_
                refine bk_b (q := (241, [(0, .ref 135), (1, .int p1), (2, .int p2)], [.int p2, .ref 145, .int (1 : Int32), .ref 135])) tb_c_183_2 mx_183 1 rfl ?_
                by_cases g56 : p2 < 0 ∨ 15010 ≤ p2.toNatClampNeg
                · rw [if_pos g56] at h; cases h
                · rw [if_neg g56] at h
                  refine bk_a4 tb_c_183_2 rfl rfl rfl g56 ?_
                  exact go_lv ls_nil (sn_Mo_onMaking_242 h)
      · rw [if_neg g39] at h
        by_cases g61 : p1 = (4 : Int32)
        · rw [if_pos g61] at h
          refine bk_sw tb_c_183_0 rfl (pc' := 279) (by rw [g61]; rfl) ?_
          refine bk_b (q := (281, [(0, .ref 135), (1, .int p1), (2, .int p2)], [.ref 135, .ref 135])) tb_c_183_3 mx_183 2 rfl ?_
          refine bk_gi tb_c_183_3 rfl rfl (ci := 11) (k := 79) rfl rfl rfl ?_
          refine bk_b (q := (286, [(0, .ref 135), (1, .int p1), (2, .int p2)], [.int ((S.1 135 79) - (3 : Int32)), .ref 135])) tb_c_183_3 mx_183 2 rfl ?_
          obtain ⟨S62, eS62, h⟩ := wd_bx h
          refine bk_pi tb_c_183_3 rfl rfl (ci := 11) (k := 79) rfl rfl rfl rfl ?_
          rw [eS62]
          refine bk_b (q := (291, [(0, .ref 135), (1, .int p1), (2, .int p2)], [.ref 135, .ref 135])) tb_c_183_3 mx_183 2 rfl ?_
          refine bk_gi tb_c_183_3 rfl rfl (ci := 11) (k := 79) rfl rfl rfl ?_
          obtain ⟨x64, S63, c65, h⟩ := wd_cx h
          refine bk_kv tb_c_183_3 rfl rfl rfl rfl rfl (ci := 11) rfl rfl (ev_up (Nat.le_of_ble_eq_true rfl) (sn_Mo_nodeOf c65)) ?_
          refine bk_b (q := (300, [(3, .int x64), (0, .ref 135), (1, .int p1), (2, .int p2)], [.ref 135, .ref 135])) tb_c_183_3 mx_183 3 rfl ?_
          refine bk_gi tb_c_183_3 rfl rfl (ci := 11) (k := 79) rfl rfl rfl ?_
          refine bk_b (q := (305, [(3, .int x64), (0, .ref 135), (1, .int p1), (2, .int p2)], [.int ((S63.1 135 79) + (1 : Int32)), .ref 135])) tb_c_183_3 mx_183 2 rfl ?_
          obtain ⟨x67, S66, c68, h⟩ := wd_cx h
          refine bk_kv tb_c_183_3 rfl rfl rfl rfl rfl (ci := 11) rfl rfl (ev_up (Nat.le_of_ble_eq_true rfl) (sn_Mo_nodeOf c68)) ?_
          refine bk_b (q := (312, [(4, .int x67), (3, .int x64), (0, .ref 135), (1, .int p1), (2, .int p2)], [.ref 135, .ref 135])) tb_c_183_3 mx_183 3 rfl ?_
          refine bk_gi tb_c_183_3 rfl rfl (ci := 11) (k := 79) rfl rfl rfl ?_
          refine bk_b (q := (316, [(4, .int x67), (3, .int x64), (0, .ref 135), (1, .int p1), (2, .int p2)], [.int (2 : Int32), .int (S66.1 135 79), .ref 135])) tb_c_183_3 mx_183 1 rfl ?_
          refine bk_b (q := (317, [(4, .int x67), (3, .int x64), (0, .ref 135), (1, .int p1), (2, .int p2)], [.int ((S66.1 135 79) + (2 : Int32)), .ref 135])) tb_c_183_4 mx_183 1 rfl ?_
          obtain ⟨x70, S69, c71, h⟩ := wd_cx h
          refine bk_kv tb_c_183_4 rfl rfl rfl rfl rfl (ci := 11) rfl rfl (ev_up (Nat.le_of_ble_eq_true rfl) (sn_Mo_nodeOf c71)) ?_
          refine bk_b (q := (324, [(5, .int x70), (4, .int x67), (3, .int x64), (0, .ref 135), (1, .int p1), (2, .int p2)], [.int (2 : Int32), .ref 135])) tb_c_183_4 mx_183 3 rfl ?_
          obtain ⟨x73, S72, c74, h⟩ := wd_cx h
          refine bk_kv tb_c_183_4 rfl rfl rfl rfl rfl (ci := 11) rfl rfl (ev_up (Nat.le_of_ble_eq_true rfl) (sn_Mo_fresh c74)) ?_
          refine bk_b (q := (330, [(6, .int x73), (5, .int x70), (4, .int x67), (3, .int x64), (0, .ref 135), (1, .int p1), (2, .int p2)], [.ref 135])) tb_c_183_4 mx_183 2 rfl ?_
          refine bk_gc tb_c_183_4 rfl rfl (ci := 11) (k := 18) rfl rfl rfl ?_
          refine bk_b (q := (336, [(6, .int x73), (5, .int x70), (4, .int x67), (3, .int x64), (0, .ref 135), (1, .int p1), (2, .int p2)], [.int x64, .int x73, .ref 144])) tb_c_183_4 mx_183 2 rfl ?_
          by_cases g75 : x73 < 0 ∨ 15010 ≤ x73.toNatClampNeg
          · rw [if_pos g75] at h; cases h
          · rw [if_neg g75] at h
            obtain ⟨S76, eS76, h⟩ := wd_bx h
            refine bk_s4 tb_c_183_4 rfl rfl rfl g75 ?_
            rw [eS76]
            refine bk_b (q := (338, [(6, .int x73), (5, .int x70), (4, .int x67), (3, .int x64), (0, .ref 135), (1, .int p1), (2, .int p2)], [.ref 135])) tb_c_183_4 mx_183 1 rfl ?_
            refine bk_gc tb_c_183_4 rfl rfl (ci := 11) (k := 19) rfl rfl rfl ?_
            refine bk_b (q := (345, [(6, .int x73), (5, .int x70), (4, .int x67), (3, .int x64), (0, .ref 135), (1, .int p1), (2, .int p2)], [.int x67, .int x73, .ref 145])) tb_c_183_4 mx_183 2 rfl ?_
            by_cases g77 : x73 < 0 ∨ 15010 ≤ x73.toNatClampNeg
            · rw [if_pos g77] at h; cases h
            · rw [if_neg g77] at h
              obtain ⟨S78, eS78, h⟩ := wd_bx h
              refine bk_s4 tb_c_183_4 rfl rfl rfl g77 ?_
              rw [eS78]
              refine bk_b (q := (347, [(6, .int x73), (5, .int x70), (4, .int x67), (3, .int x64), (0, .ref 135), (1, .int p1), (2, .int p2)], [.ref 135])) tb_c_183_4 mx_183 1 rfl ?_
              refine bk_gc tb_c_183_4 rfl rfl (ci := 11) (k := 20) rfl rfl rfl ?_
              refine bk_b (q := (354, [(6, .int x73), (5, .int x70), (4, .int x67), (3, .int x64), (0, .ref 135), (1, .int p1), (2, .int p2)], [.int x70, .int x73, .ref 146])) tb_c_183_4 mx_183 2 rfl ?_
              by_cases g79 : x73 < 0 ∨ 15010 ≤ x73.toNatClampNeg
              · rw [if_pos g79] at h; cases h
              · rw [if_neg g79] at h
                obtain ⟨S80, eS80, h⟩ := wd_bx h
                refine bk_s4 tb_c_183_4 rfl rfl rfl g79 ?_
                rw [eS80]
                refine bk_b (q := (359, [(6, .int x73), (5, .int x70), (4, .int x67), (3, .int x64), (0, .ref 135), (1, .int p1), (2, .int p2)], [.int x73, .int (0 : Int32), .ref 135])) tb_c_183_4 mx_183 3 rfl ?_
                obtain ⟨S81, c83, h⟩ := wd_dx h
                refine bk_kv tb_c_183_4 rfl rfl rfl rfl rfl (ci := 11) rfl rfl (ev_up (Nat.le_of_ble_eq_true rfl) (sn_Mo_gives c83)) ?_
                refine bk_b (q := (566, [(6, .int x73), (5, .int x70), (4, .int x67), (3, .int x64), (0, .ref 135), (1, .int p1), (2, .int p2)], [])) tb_c_183_4 mx_183 1 rfl ?_
                exact go_lv ls_nil (sn_Mo_onMaking_566 h)
        · rw [if_neg g61] at h
          by_cases g84 : p1 = (5 : Int32)
          · rw [if_pos g84] at h
            refine bk_sw tb_c_183_0 rfl (pc' := 471) (by rw [g84]; rfl) ?_
            refine bk_b (q := (473, [(0, .ref 135), (1, .int p1), (2, .int p2)], [.ref 135, .ref 135])) tb_c_183_6 mx_183 2 rfl ?_
            refine bk_gi tb_c_183_6 rfl rfl (ci := 11) (k := 79) rfl rfl rfl ?_
            refine bk_b (q := (478, [(0, .ref 135), (1, .int p1), (2, .int p2)], [.int ((S.1 135 79) - (2 : Int32)), .ref 135])) tb_c_183_6 mx_183 2 rfl ?_
            obtain ⟨S85, eS85, h⟩ := wd_bx h
            refine bk_pi tb_c_183_6 rfl rfl (ci := 11) (k := 79) rfl rfl rfl rfl ?_
            rw [eS85]
            refine bk_b (q := (483, [(0, .ref 135), (1, .int p1), (2, .int p2)], [.ref 135, .ref 135])) tb_c_183_6 mx_183 2 rfl ?_
            refine bk_gi tb_c_183_6 rfl rfl (ci := 11) (k := 79) rfl rfl rfl ?_
            obtain ⟨x87, S86, c88, h⟩ := wd_cx h
            refine bk_kv tb_c_183_6 rfl rfl rfl rfl rfl (ci := 11) rfl rfl (ev_up (Nat.le_of_ble_eq_true rfl) (sn_Mo_nodeOf c88)) ?_
            refine bk_b (q := (493, [(8, .int x87), (0, .ref 135), (1, .int p1), (2, .int p2)], [.ref 135, .ref 135])) tb_c_183_6 mx_183 3 rfl ?_
            refine bk_gi tb_c_183_6 rfl rfl (ci := 11) (k := 79) rfl rfl rfl ?_
            refine bk_b (q := (498, [(8, .int x87), (0, .ref 135), (1, .int p1), (2, .int p2)], [.int ((S86.1 135 79) + (1 : Int32)), .ref 135])) tb_c_183_6 mx_183 2 rfl ?_
            obtain ⟨x90, S89, c91, h⟩ := wd_cx h
            refine bk_kv tb_c_183_6 rfl rfl rfl rfl rfl (ci := 11) rfl rfl (ev_up (Nat.le_of_ble_eq_true rfl) (sn_Mo_nodeOf c91)) ?_
            refine bk_b (q := (505, [(9, .int x90), (8, .int x87), (0, .ref 135), (1, .int p1), (2, .int p2)], [.int (3 : Int32), .ref 135])) tb_c_183_6 mx_183 3 rfl ?_
            obtain ⟨x93, S92, c94, h⟩ := wd_cx h
            refine bk_kv tb_c_183_6 rfl rfl rfl rfl rfl (ci := 11) rfl rfl (ev_up (Nat.le_of_ble_eq_true rfl) (sn_Mo_fresh c94)) ?_
            refine bk_b (q := (511, [(10, .int x93), (9, .int x90), (8, .int x87), (0, .ref 135), (1, .int p1), (2, .int p2)], [.ref 135])) tb_c_183_6 mx_183 2 rfl ?_
            refine bk_gc tb_c_183_6 rfl rfl (ci := 11) (k := 18) rfl rfl rfl ?_
            refine bk_b (q := (518, [(10, .int x93), (9, .int x90), (8, .int x87), (0, .ref 135), (1, .int p1), (2, .int p2)], [.int x87, .int x93, .ref 144])) tb_c_183_6 mx_183 2 rfl ?_
            by_cases g95 : x93 < 0 ∨ 15010 ≤ x93.toNatClampNeg
            · rw [if_pos g95] at h; cases h
            · rw [if_neg g95] at h
              obtain ⟨S96, eS96, h⟩ := wd_bx h
              refine bk_s4 tb_c_183_6 rfl rfl rfl g95 ?_
              rw [eS96]
              refine bk_b (q := (520, [(10, .int x93), (9, .int x90), (8, .int x87), (0, .ref 135), (1, .int p1), (2, .int p2)], [.ref 135])) tb_c_183_6 mx_183 1 rfl ?_
              refine bk_gc tb_c_183_6 rfl rfl (ci := 11) (k := 19) rfl rfl rfl ?_
              refine bk_b (q := (527, [(10, .int x93), (9, .int x90), (8, .int x87), (0, .ref 135), (1, .int p1), (2, .int p2)], [.int x90, .int x93, .ref 145])) tb_c_183_6 mx_183 2 rfl ?_
              by_cases g97 : x93 < 0 ∨ 15010 ≤ x93.toNatClampNeg
              · rw [if_pos g97] at h; cases h
              · rw [if_neg g97] at h
                obtain ⟨S98, eS98, h⟩ := wd_bx h
                refine bk_s4 tb_c_183_6 rfl rfl rfl g97 ?_
                rw [eS98]
                refine bk_b (q := (529, [(10, .int x93), (9, .int x90), (8, .int x87), (0, .ref 135), (1, .int p1), (2, .int p2)], [.ref 135])) tb_c_183_7 mx_183 1 rfl ?_
                refine bk_gc tb_c_183_7 rfl rfl (ci := 11) (k := 20) rfl rfl rfl ?_
                refine bk_b (q := (535, [(10, .int x93), (9, .int x90), (8, .int x87), (0, .ref 135), (1, .int p1), (2, .int p2)], [.ref 135, .int x93, .ref 146])) tb_c_183_7 mx_183 2 rfl ?_
                refine bk_gc tb_c_183_7 rfl rfl (ci := 11) (k := 20) rfl rfl rfl ?_
                refine bk_b (q := (539, [(10, .int x93), (9, .int x90), (8, .int x87), (0, .ref 135), (1, .int p1), (2, .int p2)], [.int p2, .ref 146, .int x93, .ref 146])) tb_c_183_7 mx_183 1 rfl ?_
                by_cases g99 : p2 < 0 ∨ 15010 ≤ p2.toNatClampNeg
                · rw [if_pos g99] at h; cases h
                · rw [if_neg g99] at h
                  refine bk_a4 tb_c_183_7 rfl rfl rfl g99 ?_
                  by_cases g100 : x93 < 0 ∨ 15010 ≤ x93.toNatClampNeg
                  · rw [if_pos g100] at h; cases h
                  · rw [if_neg g100] at h
                    obtain ⟨S101, eS101, h⟩ := wd_bx h
                    refine bk_s4 tb_c_183_7 rfl rfl rfl g100 ?_
                    rw [eS101]
                    refine bk_b (q := (543, [(10, .int x93), (9, .int x90), (8, .int x87), (0, .ref 135), (1, .int p1), (2, .int p2)], [.ref 135, .ref 135])) tb_c_183_7 mx_183 2 rfl ?_
                    refine bk_gi tb_c_183_7 rfl rfl (ci := 11) (k := 70) rfl rfl rfl ?_
                    refine bk_b (q := (548, [(10, .int x93), (9, .int x90), (8, .int x87), (0, .ref 135), (1, .int p1), (2, .int p2)], [.int ((S101.1 135 70) + (1 : Int32)), .ref 135])) tb_c_183_7 mx_183 2 rfl ?_
                    obtain ⟨S102, eS102, h⟩ := wd_bx h
                    refine bk_pi tb_c_183_7 rfl rfl (ci := 11) (k := 70) rfl rfl rfl rfl ?_
                    rw [eS102]
                    refine bk_b (q := (555, [(10, .int x93), (9, .int x90), (8, .int x87), (0, .ref 135), (1, .int p1), (2, .int p2)], [.int x93, .int (0 : Int32), .ref 135])) tb_c_183_7 mx_183 3 rfl ?_
                    obtain ⟨S103, c105, h⟩ := wd_dx h
                    refine bk_kv tb_c_183_7 rfl rfl rfl rfl rfl (ci := 11) rfl rfl (ev_up (Nat.le_of_ble_eq_true rfl) (sn_Mo_gives c105)) ?_
                    refine bk_b (q := (566, [(10, .int x93), (9, .int x90), (8, .int x87), (0, .ref 135), (1, .int p1), (2, .int p2)], [])) tb_c_183_7 mx_183 1 rfl ?_
                    exact go_lv ls_nil (sn_Mo_onMaking_566 h)
          · rw [if_neg g84] at h
            by_cases g106 : p1 = (6 : Int32)
            · rw [if_pos g106] at h
              refine bk_sw tb_c_183_0 rfl (pc' := 365) (by rw [g106]; rfl) ?_
              refine bk_b (q := (366, [(0, .ref 135), (1, .int p1), (2, .int p2)], [.ref 135])) tb_c_183_4 mx_183 1 rfl ?_
              refine bk_gc tb_c_183_4 rfl rfl (ci := 11) (k := 77) rfl rfl rfl ?_
              refine bk_b (q := (370, [(0, .ref 135), (1, .int p1), (2, .int p2)], [.ref 135, .ref 167])) tb_c_183_4 mx_183 1 rfl ?_
              refine bk_gi tb_c_183_4 rfl rfl (ci := 11) (k := 79) rfl rfl rfl ?_
              refine bk_b (q := (375, [(0, .ref 135), (1, .int p1), (2, .int p2)], [.int ((S.1 135 79) - (1 : Int32)), .ref 167])) tb_c_183_4 mx_183 2 rfl ?_
              by_cases g107 : ((S.1 135 79) - (1 : Int32)) < 0 ∨ 4000 ≤ ((S.1 135 79) - (1 : Int32)).toNatClampNeg
              · rw [if_pos g107] at h; cases h
              · rw [if_neg g107] at h
                refine bk_a1 tb_c_183_4 rfl rfl rfl g107 ?_
                refine bk_b (q := (379, [(7, .int (S.1 167 ((S.1 135 79) - (1 : Int32)).toNatClampNeg)), (0, .ref 135), (1, .int p1), (2, .int p2)], [.ref 135])) tb_c_183_4 mx_183 2 rfl ?_
                refine bk_gc tb_c_183_4 rfl rfl (ci := 11) (k := 80) rfl rfl rfl ?_
                refine bk_b (q := (383, [(7, .int (S.1 167 ((S.1 135 79) - (1 : Int32)).toNatClampNeg)), (0, .ref 135), (1, .int p1), (2, .int p2)], [.ref 135, .ref 169])) tb_c_183_4 mx_183 1 rfl ?_
                refine bk_gc tb_c_183_4 rfl rfl (ci := 11) (k := 20) rfl rfl rfl ?_
                refine bk_b (q := (387, [(7, .int (S.1 167 ((S.1 135 79) - (1 : Int32)).toNatClampNeg)), (0, .ref 135), (1, .int p1), (2, .int p2)], [.int p2, .ref 146, .ref 169])) tb_c_183_4 mx_183 1 rfl ?_
                by_cases g108 : p2 < 0 ∨ 15010 ≤ p2.toNatClampNeg
                · rw [if_pos g108] at h; cases h
                · rw [if_neg g108] at h
                  refine bk_a4 tb_c_183_5 rfl rfl rfl g108 ?_
                  refine bk_b (q := (390, [(7, .int (S.1 167 ((S.1 135 79) - (1 : Int32)).toNatClampNeg)), (0, .ref 135), (1, .int p1), (2, .int p2)], [.int (S.1 167 ((S.1 135 79) - (1 : Int32)).toNatClampNeg), .int (S.1 146 p2.toNatClampNeg), .ref 169])) tb_c_183_5 mx_183 1 rfl ?_
                  by_cases g109 : ((S.1 146 p2.toNatClampNeg) < 0 ∨ 16 ≤ (S.1 146 p2.toNatClampNeg).toNatClampNeg) ∨ ¬mi_fit .boolean (.int (S.1 167 ((S.1 135 79) - (1 : Int32)).toNatClampNeg)) = true
                  · rw [if_pos g109] at h; cases h
                  · rw [if_neg g109] at h
                    obtain ⟨S110, eS110, h⟩ := wd_bx h
                    refine bk_s1 tb_c_183_5 rfl rfl rfl (fun q => g109 (Or.inl q)) (Decidable.not_not.mp (fun q => g109 (Or.inr q))) ?_
                    rw [eS110]
                    refine bk_b (q := (392, [(7, .int (S.1 167 ((S.1 135 79) - (1 : Int32)).toNatClampNeg)), (0, .ref 135), (1, .int p1), (2, .int p2)], [.ref 135])) tb_c_183_5 mx_183 1 rfl ?_
                    refine bk_gc tb_c_183_5 rfl rfl (ci := 11) (k := 81) rfl rfl rfl ?_
                    refine bk_b (q := (396, [(7, .int (S.1 167 ((S.1 135 79) - (1 : Int32)).toNatClampNeg)), (0, .ref 135), (1, .int p1), (2, .int p2)], [.ref 135, .ref 170])) tb_c_183_5 mx_183 1 rfl ?_
                    refine bk_gc tb_c_183_5 rfl rfl (ci := 11) (k := 20) rfl rfl rfl ?_
                    refine bk_b (q := (400, [(7, .int (S.1 167 ((S.1 135 79) - (1 : Int32)).toNatClampNeg)), (0, .ref 135), (1, .int p1), (2, .int p2)], [.int p2, .ref 146, .ref 170])) tb_c_183_5 mx_183 1 rfl ?_
                    by_cases g111 : p2 < 0 ∨ 15010 ≤ p2.toNatClampNeg
                    · rw [if_pos g111] at h; cases h
                    · rw [if_neg g111] at h
                      refine bk_a4 tb_c_183_5 rfl rfl rfl g111 ?_
                      refine bk_b (q := (403, [(7, .int (S.1 167 ((S.1 135 79) - (1 : Int32)).toNatClampNeg)), (0, .ref 135), (1, .int p1), (2, .int p2)], [.int (S.1 167 ((S.1 135 79) - (1 : Int32)).toNatClampNeg), .int (S110.1 146 p2.toNatClampNeg), .ref 170])) tb_c_183_5 mx_183 1 rfl ?_
                      by_cases g112 : (S.1 167 ((S.1 135 79) - (1 : Int32)).toNatClampNeg) = 0
                      · rw [if_pos g112] at h
                        refine bk_zt tb_c_183_5 rfl (pc' := 420) rfl (cm_eq_t g112) ?_
                        refine bk_b (q := (421, [(7, .int (S.1 167 ((S.1 135 79) - (1 : Int32)).toNatClampNeg)), (0, .ref 135), (1, .int p1), (2, .int p2)], [.ref 135, .int (S110.1 146 p2.toNatClampNeg), .ref 170])) tb_c_183_5 mx_183 1 rfl ?_
                        refine bk_gc tb_c_183_5 rfl rfl (ci := 11) (k := 20) rfl rfl rfl ?_
                        refine bk_b (q := (425, [(7, .int (S.1 167 ((S.1 135 79) - (1 : Int32)).toNatClampNeg)), (0, .ref 135), (1, .int p1), (2, .int p2)], [.int p2, .ref 146, .int (S110.1 146 p2.toNatClampNeg), .ref 170])) tb_c_183_5 mx_183 1 rfl ?_
                        by_cases g113 : p2 < 0 ∨ 15010 ≤ p2.toNatClampNeg
                        · rw [if_pos g113] at h; cases h
                        · rw [if_neg g113] at h
                          refine bk_a4 tb_c_183_5 rfl rfl rfl g113 ?_
                          exact go_lv (ls_sc rfl rfl (ls_sc rfl rfl (ls_sc rfl rfl ls_nil))) (sn_Mo_onMaking_426 h)
                      · rw [if_neg g112] at h
                        refine bk_zf tb_c_183_5 rfl (pc' := 406) rfl (t := 420) rfl (cm_eq_f g112) ?_
                        refine bk_b (q := (407, [(7, .int (S.1 167 ((S.1 135 79) - (1 : Int32)).toNatClampNeg)), (0, .ref 135), (1, .int p1), (2, .int p2)], [.ref 135, .int (S110.1 146 p2.toNatClampNeg), .ref 170])) tb_c_183_5 mx_183 1 rfl ?_
                        refine bk_gc tb_c_183_5 rfl rfl (ci := 11) (k := 78) rfl rfl rfl ?_
                        refine bk_b (q := (411, [(7, .int (S.1 167 ((S.1 135 79) - (1 : Int32)).toNatClampNeg)), (0, .ref 135), (1, .int p1), (2, .int p2)], [.ref 135, .ref 168, .int (S110.1 146 p2.toNatClampNeg), .ref 170])) tb_c_183_5 mx_183 1 rfl ?_
                        refine bk_gi tb_c_183_5 rfl rfl (ci := 11) (k := 79) rfl rfl rfl ?_
                        refine bk_b (q := (416, [(7, .int (S.1 167 ((S.1 135 79) - (1 : Int32)).toNatClampNeg)), (0, .ref 135), (1, .int p1), (2, .int p2)], [.int ((S110.1 135 79) - (1 : Int32)), .ref 168, .int (S110.1 146 p2.toNatClampNeg), .ref 170])) tb_c_183_5 mx_183 2 rfl ?_
                        by_cases g126 : ((S110.1 135 79) - (1 : Int32)) < 0 ∨ 4000 ≤ ((S110.1 135 79) - (1 : Int32)).toNatClampNeg
                        · rw [if_pos g126] at h; cases h
                        · rw [if_neg g126] at h
                          refine bk_a4 tb_c_183_5 rfl rfl rfl g126 ?_
                          refine bk_b (q := (426, [(7, .int (S.1 167 ((S.1 135 79) - (1 : Int32)).toNatClampNeg)), (0, .ref 135), (1, .int p1), (2, .int p2)], [.int (S110.1 168 ((S110.1 135 79) - (1 : Int32)).toNatClampNeg), .int (S110.1 146 p2.toNatClampNeg), .ref 170])) tb_c_183_5 mx_183 1 rfl ?_
                          exact go_lv (ls_sc rfl rfl (ls_sc rfl rfl (ls_sc rfl rfl ls_nil))) (sn_Mo_onMaking_426 h)
            · rw [if_neg g106] at h
              refine bk_sw tb_c_183_0 rfl (pc' := 561) (sw_t (t := 561) (fun i h1 h2 => ?_) rfl) ?_
              · have hi : i = 1 ∨ i = 2 ∨ i = 3 ∨ i = 4 ∨ i = 5 ∨ i = 6 := by omega
                rcases hi with rfl | rfl | rfl | rfl | rfl | rfl
                · exact g1
                · exact g5
                · exact g39
                · exact g61
                · exact g84
                · exact g106
              · refine bk_b (q := (563, [(0, .ref 135), (1, .int p1), (2, .int p2)], [.int p2, .ref 135])) tb_c_183_7 mx_183 2 rfl ?_
                obtain ⟨S127, c129, h⟩ := wd_dx h
                refine bk_kv tb_c_183_7 rfl rfl rfl rfl rfl (ci := 11) rfl rfl (ev_up (Nat.le_of_ble_eq_true rfl) (sn_Mo_onCalled c129)) ?_
                exact go_lv ls_nil (sn_Mo_onMaking_566 h)
theorem mx_181 : mi_mx tb_P 181 = 6 := rfl
noncomputable def fn_Mo_makeVersion_199 (l1 : Int32) (l4 : Int32) (S : wd_S) : Option wd_S :=
  (if l1 < 0 ∨ 160 ≤ l1.toNatClampNeg then none else
  (wd_b (wd_i S 163 l1.toNatClampNeg ((S.1 135 66) - l4)) fun S14 =>
  (if l1 < 0 ∨ 160 ≤ l1.toNatClampNeg then none else
  (wd_b (wd_i S14 164 l1.toNatClampNeg (S14.1 135 70)) fun S16 =>
  some S16))))
set_option maxRecDepth 100000 in
theorem sn_Mo_makeVersion_199 {L : Nat} {xs : Nat → Int32} {l1 : Int32} {l4 : Int32} {S : wd_S} {S' : wd_S} (h : fn_Mo_makeVersion_199 l1 l4 S = some S') : go_r tb_P L xs 5 181 199 [(0, .ref 135), (1, .int l1), (4, .int l4)] [] (wd_k S) (.inl none, wd_k S') := by
  unfold fn_Mo_makeVersion_199 at h
  refine bk_b (q := (200, [(0, .ref 135), (1, .int l1), (4, .int l4)], [.ref 135])) tb_c_181_2 mx_181 1 rfl ?_
  refine bk_gc tb_c_181_2 rfl rfl (ci := 11) (k := 57) rfl rfl rfl ?_
  refine bk_b (q := (205, [(0, .ref 135), (1, .int l1), (4, .int l4)], [.ref 135, .int l1, .ref 163])) tb_c_181_2 mx_181 2 rfl ?_
  refine bk_gi tb_c_181_2 rfl rfl (ci := 11) (k := 66) rfl rfl rfl ?_
  refine bk_b (q := (210, [(0, .ref 135), (1, .int l1), (4, .int l4)], [.int l4, .int (S.1 135 66), .int l1, .ref 163])) tb_c_181_2 mx_181 1 rfl ?_
  refine bk_b (q := (211, [(0, .ref 135), (1, .int l1), (4, .int l4)], [.int ((S.1 135 66) - l4), .int l1, .ref 163])) tb_c_181_3 mx_181 1 rfl ?_
  by_cases g13 : l1 < 0 ∨ 160 ≤ l1.toNatClampNeg
  · rw [if_pos g13] at h; cases h
  · rw [if_neg g13] at h
    obtain ⟨S14, eS14, h⟩ := wd_bx h
    refine bk_s4 tb_c_181_3 rfl rfl rfl g13 ?_
    rw [eS14]
    refine bk_b (q := (213, [(0, .ref 135), (1, .int l1), (4, .int l4)], [.ref 135])) tb_c_181_3 mx_181 1 rfl ?_
    refine bk_gc tb_c_181_3 rfl rfl (ci := 11) (k := 58) rfl rfl rfl ?_
    refine bk_b (q := (218, [(0, .ref 135), (1, .int l1), (4, .int l4)], [.ref 135, .int l1, .ref 164])) tb_c_181_3 mx_181 2 rfl ?_
    refine bk_gi tb_c_181_3 rfl rfl (ci := 11) (k := 70) rfl rfl rfl ?_
    by_cases g15 : l1 < 0 ∨ 160 ≤ l1.toNatClampNeg
    · rw [if_pos g15] at h; cases h
    · rw [if_neg g15] at h
      obtain ⟨S16, eS16, h⟩ := wd_bx h
      refine bk_s4 tb_c_181_3 rfl rfl rfl g15 ?_
      rw [eS16]
      cases h
      exact bk_t tb_c_181_3 rfl rfl
noncomputable def fn_Mo_makeVersion_181 (l1 : Int32) (l4 : Int32) (S : wd_S) : Option wd_S :=
  (if (S.1 135 73) = 0 then
    (wd_c (fn_Mo_nodeOf (0 : Int32) S) fun x18 S17 =>
    (if l1 < 0 ∨ 160 ≤ l1.toNatClampNeg then none else
    (wd_b (wd_i S17 162 l1.toNatClampNeg x18) fun S21 =>
    fn_Mo_makeVersion_199 l1 l4 S21)))
  else
    fn_Mo_makeVersion_199 l1 l4 S)
set_option maxRecDepth 100000 in
theorem sn_Mo_makeVersion_181 {L : Nat} {xs : Nat → Int32} {l1 : Int32} {l4 : Int32} {S : wd_S} {S' : wd_S} (h : fn_Mo_makeVersion_181 l1 l4 S = some S') : go_r tb_P L xs 5 181 181 [(0, .ref 135), (1, .int l1), (4, .int l4)] [] (wd_k S) (.inl none, wd_k S') := by
  unfold fn_Mo_makeVersion_181 at h
  refine bk_b (q := (182, [(0, .ref 135), (1, .int l1), (4, .int l4)], [.ref 135])) tb_c_181_2 mx_181 1 rfl ?_
  refine bk_gi tb_c_181_2 rfl rfl (ci := 11) (k := 73) rfl rfl rfl ?_
  by_cases g12 : (S.1 135 73) = 0
  · rw [if_pos g12] at h
    refine bk_zf tb_c_181_2 rfl (pc' := 188) rfl (t := 199) rfl (cm_ne_f g12) ?_
    refine bk_b (q := (189, [(0, .ref 135), (1, .int l1), (4, .int l4)], [.ref 135])) tb_c_181_2 mx_181 1 rfl ?_
    refine bk_gc tb_c_181_2 rfl rfl (ci := 11) (k := 56) rfl rfl rfl ?_
    refine bk_b (q := (195, [(0, .ref 135), (1, .int l1), (4, .int l4)], [.int (0 : Int32), .ref 135, .int l1, .ref 162])) tb_c_181_2 mx_181 3 rfl ?_
    obtain ⟨x18, S17, c19, h⟩ := wd_cx h
    refine bk_kv tb_c_181_2 rfl rfl rfl rfl rfl (ci := 11) rfl rfl (ev_up (Nat.le_of_ble_eq_true rfl) (sn_Mo_nodeOf c19)) ?_
    by_cases g20 : l1 < 0 ∨ 160 ≤ l1.toNatClampNeg
    · rw [if_pos g20] at h; cases h
    · rw [if_neg g20] at h
      obtain ⟨S21, eS21, h⟩ := wd_bx h
      refine bk_s4 tb_c_181_2 rfl rfl rfl g20 ?_
      rw [eS21]
      exact go_lv (ls_sc rfl rfl (ls_sc rfl rfl (ls_sc rfl rfl ls_nil))) (sn_Mo_makeVersion_199 h)
  · rw [if_neg g12] at h
    refine bk_zt tb_c_181_2 rfl (pc' := 199) rfl (cm_ne_t g12) ?_
    exact go_lv (ls_sc rfl rfl (ls_sc rfl rfl (ls_sc rfl rfl ls_nil))) (sn_Mo_makeVersion_199 h)
noncomputable def fn_Mo_makeVersion_132 : Nat → Int32 → Int32 → wd_S → Option wd_S
  | 0, _, _, _ => none
  | n + 1, l1, l4, S =>
    (if 0 < (S.1 135 76) then
      (if (S.1 135 73) = 0 then
        (wd_b (wd_i S 135 76 ((S.1 135 76) - (1 : Int32))) fun S23 =>
        (if (S23.1 135 76) < 0 ∨ 4000 ≤ (S23.1 135 76).toNatClampNeg then none else
        (if (S23.1 135 76) < 0 ∨ 4000 ≤ (S23.1 135 76).toNatClampNeg then none else
        (wd_d (fn_Mo_onMaking (S23.1 165 (S23.1 135 76).toNatClampNeg) (S23.1 166 (S23.1 135 76).toNatClampNeg) S23) fun S26 =>
        fn_Mo_makeVersion_132 n l1 l4 S26))))
      else
        fn_Mo_makeVersion_181 l1 l4 S)
    else
      fn_Mo_makeVersion_181 l1 l4 S)
set_option maxRecDepth 100000 in
theorem sn_Mo_makeVersion_132 {L : Nat} {xs : Nat → Int32} : ∀ (n : Nat) {l1 : Int32} {l4 : Int32} {S : wd_S} {S' : wd_S}, fn_Mo_makeVersion_132 n l1 l4 S = some S' → go_r tb_P L xs 5 181 132 [(0, .ref 135), (1, .int l1), (4, .int l4)] [] (wd_k S) (.inl none, wd_k S') := by
  intro n
  induction n with
  | zero => intro l1 l4 S S'  h; cases h
  | succ n ih =>
    intro l1 l4 S S'  h
    rw [fn_Mo_makeVersion_132] at h
    refine bk_b (q := (133, [(0, .ref 135), (1, .int l1), (4, .int l4)], [.ref 135])) tb_c_181_1 mx_181 1 rfl ?_
    refine bk_gi tb_c_181_2 rfl rfl (ci := 11) (k := 76) rfl rfl rfl ?_
    by_cases g11 : 0 < (S.1 135 76)
    · rw [if_pos g11] at h
      refine bk_zf tb_c_181_2 rfl (pc' := 139) rfl (t := 181) rfl (cm_le_f g11) ?_
      refine bk_b (q := (140, [(0, .ref 135), (1, .int l1), (4, .int l4)], [.ref 135])) tb_c_181_2 mx_181 1 rfl ?_
      refine bk_gi tb_c_181_2 rfl rfl (ci := 11) (k := 73) rfl rfl rfl ?_
      by_cases g22 : (S.1 135 73) = 0
      · rw [if_pos g22] at h
        refine bk_zf tb_c_181_2 rfl (pc' := 146) rfl (t := 181) rfl (cm_ne_f g22) ?_
        refine bk_b (q := (148, [(0, .ref 135), (1, .int l1), (4, .int l4)], [.ref 135, .ref 135])) tb_c_181_2 mx_181 2 rfl ?_
        refine bk_gi tb_c_181_2 rfl rfl (ci := 11) (k := 76) rfl rfl rfl ?_
        refine bk_b (q := (153, [(0, .ref 135), (1, .int l1), (4, .int l4)], [.int ((S.1 135 76) - (1 : Int32)), .ref 135])) tb_c_181_2 mx_181 2 rfl ?_
        obtain ⟨S23, eS23, h⟩ := wd_bx h
        refine bk_pi tb_c_181_2 rfl rfl (ci := 11) (k := 76) rfl rfl rfl rfl ?_
        rw [eS23]
        refine bk_b (q := (158, [(0, .ref 135), (1, .int l1), (4, .int l4)], [.ref 135, .ref 135])) tb_c_181_2 mx_181 2 rfl ?_
        refine bk_gc tb_c_181_2 rfl rfl (ci := 11) (k := 74) rfl rfl rfl ?_
        refine bk_b (q := (162, [(0, .ref 135), (1, .int l1), (4, .int l4)], [.ref 135, .ref 165, .ref 135])) tb_c_181_2 mx_181 1 rfl ?_
        refine bk_gi tb_c_181_2 rfl rfl (ci := 11) (k := 76) rfl rfl rfl ?_
        by_cases g24 : (S23.1 135 76) < 0 ∨ 4000 ≤ (S23.1 135 76).toNatClampNeg
        · rw [if_pos g24] at h; cases h
        · rw [if_neg g24] at h
          refine bk_a4 tb_c_181_2 rfl rfl rfl g24 ?_
          refine bk_b (q := (167, [(0, .ref 135), (1, .int l1), (4, .int l4)], [.ref 135, .int (S23.1 165 (S23.1 135 76).toNatClampNeg), .ref 135])) tb_c_181_2 mx_181 1 rfl ?_
          refine bk_gc tb_c_181_2 rfl rfl (ci := 11) (k := 75) rfl rfl rfl ?_
          refine bk_b (q := (171, [(0, .ref 135), (1, .int l1), (4, .int l4)], [.ref 135, .ref 166, .int (S23.1 165 (S23.1 135 76).toNatClampNeg), .ref 135])) tb_c_181_2 mx_181 1 rfl ?_
          refine bk_gi tb_c_181_2 rfl rfl (ci := 11) (k := 76) rfl rfl rfl ?_
          by_cases g25 : (S23.1 135 76) < 0 ∨ 4000 ≤ (S23.1 135 76).toNatClampNeg
          · rw [if_pos g25] at h; cases h
          · rw [if_neg g25] at h
            refine bk_a4 tb_c_181_2 rfl rfl rfl g25 ?_
            obtain ⟨S26, c28, h⟩ := wd_dx h
            refine bk_kv tb_c_181_2 rfl rfl rfl rfl rfl (ci := 11) rfl rfl (ev_up (Nat.le_of_ble_eq_true rfl) (sn_Mo_onMaking c28)) ?_
            refine bk_b (q := (132, [(0, .ref 135), (1, .int l1), (4, .int l4)], [])) tb_c_181_2 mx_181 1 rfl ?_
            exact go_lv (ls_sc rfl rfl (ls_sc rfl rfl (ls_sc rfl rfl ls_nil))) (ih h)
      · rw [if_neg g22] at h
        refine bk_zt tb_c_181_2 rfl (pc' := 181) rfl (cm_ne_t g22) ?_
        exact go_lv (ls_sc rfl rfl (ls_sc rfl rfl (ls_sc rfl rfl ls_nil))) (sn_Mo_makeVersion_181 h)
    · rw [if_neg g11] at h
      refine bk_zt tb_c_181_2 rfl (pc' := 181) rfl (cm_le_t g11) ?_
      exact go_lv (ls_sc rfl rfl (ls_sc rfl rfl (ls_sc rfl rfl ls_nil))) (sn_Mo_makeVersion_181 h)
noncomputable def fn_Mo_makeVersion_92 (kk12 : Int32 → Int32 → Int32 → Int32 → wd_S → Option wd_S) (l1 : Int32) (l2 : Int32) (l4 : Int32) (s0 : Int32) (s1 : Int32) (S : wd_S) : Option wd_S :=
  kk12 l1 l2 (s0 + s1) (l4 + (1 : Int32)) S
set_option maxRecDepth 100000 in
theorem sn_Mo_makeVersion_92 {L : Nat} {xs : Nat → Int32} {kk12 : Int32 → Int32 → Int32 → Int32 → wd_S → Option wd_S} (hk12 : ∀ {l1 : Int32} {l2 : Int32} {l3 : Int32} {l4 : Int32} {S : wd_S} {S' : wd_S}, kk12 l1 l2 l3 l4 S = some S' → go_r tb_P L xs 5 181 12 [(0, .ref 135), (1, .int l1), (2, .int l2), (3, .int l3), (4, .int l4)] [] (wd_k S) (.inl none, wd_k S')) {l1 : Int32} {l2 : Int32} {l4 : Int32} {s0 : Int32} {s1 : Int32} {S : wd_S} {S' : wd_S} (h : fn_Mo_makeVersion_92 kk12 l1 l2 l4 s0 s1 S = some S') : go_r tb_P L xs 5 181 92 [(0, .ref 135), (1, .int l1), (2, .int l2), (4, .int l4)] [.int s1, .int s0] (wd_k S) (.inl none, wd_k S') := by
  unfold fn_Mo_makeVersion_92 at h
  refine bk_b (q := (12, [(4, .int (l4 + (1 : Int32))), (3, .int (s0 + s1)), (0, .ref 135), (1, .int l1), (2, .int l2)], [])) tb_c_181_1 mx_181 4 rfl ?_
  exact go_lv (ls_sc rfl rfl (ls_sc rfl rfl (ls_sc rfl rfl (ls_sc rfl rfl (ls_sc rfl rfl ls_nil))))) (hk12 h)
noncomputable def fn_Mo_makeVersion_80 (kk12 : Int32 → Int32 → Int32 → Int32 → wd_S → Option wd_S) (l1 : Int32) (l2 : Int32) (l3 : Int32) (l4 : Int32) (l5 : Int32) (s1 : Int32) (s2 : Int32) (S : wd_S) : Option wd_S :=
  (if s1 < 0 ∨ 16 ≤ s1.toNatClampNeg then none else
  (wd_b (wd_i S 170 s1.toNatClampNeg s2) fun S35 =>
  (if l5 = 0 then
    fn_Mo_makeVersion_92 kk12 l1 l2 l4 l3 (1 : Int32) S35
  else
    fn_Mo_makeVersion_92 kk12 l1 l2 l4 l3 (0 : Int32) S35)))
set_option maxRecDepth 100000 in
theorem sn_Mo_makeVersion_80 {L : Nat} {xs : Nat → Int32} {kk12 : Int32 → Int32 → Int32 → Int32 → wd_S → Option wd_S} (hk12 : ∀ {l1 : Int32} {l2 : Int32} {l3 : Int32} {l4 : Int32} {S : wd_S} {S' : wd_S}, kk12 l1 l2 l3 l4 S = some S' → go_r tb_P L xs 5 181 12 [(0, .ref 135), (1, .int l1), (2, .int l2), (3, .int l3), (4, .int l4)] [] (wd_k S) (.inl none, wd_k S')) {l1 : Int32} {l2 : Int32} {l3 : Int32} {l4 : Int32} {l5 : Int32} {s1 : Int32} {s2 : Int32} {S : wd_S} {S' : wd_S} (h : fn_Mo_makeVersion_80 kk12 l1 l2 l3 l4 l5 s1 s2 S = some S') : go_r tb_P L xs 5 181 80 [(0, .ref 135), (1, .int l1), (2, .int l2), (3, .int l3), (4, .int l4), (5, .int l5)] [.int s2, .int s1, .ref 170] (wd_k S) (.inl none, wd_k S') := by
  unfold fn_Mo_makeVersion_80 at h
  by_cases g34 : s1 < 0 ∨ 16 ≤ s1.toNatClampNeg
  · rw [if_pos g34] at h; cases h
  · rw [if_neg g34] at h
    obtain ⟨S35, eS35, h⟩ := wd_bx h
    refine bk_s4 tb_c_181_1 rfl rfl rfl g34 ?_
    rw [eS35]
    refine bk_b (q := (84, [(0, .ref 135), (1, .int l1), (2, .int l2), (3, .int l3), (4, .int l4), (5, .int l5)], [.int l5, .int l3])) tb_c_181_1 mx_181 2 rfl ?_
    by_cases g36 : l5 = 0
    · rw [if_pos g36] at h
      refine bk_zt tb_c_181_1 rfl (pc' := 91) rfl (cm_eq_t g36) ?_
      refine bk_b (q := (92, [(0, .ref 135), (1, .int l1), (2, .int l2), (3, .int l3), (4, .int l4), (5, .int l5)], [.int (1 : Int32), .int l3])) tb_c_181_1 mx_181 1 rfl ?_
      exact go_lv (ls_sc rfl rfl (ls_sc rfl rfl (ls_sc rfl rfl (ls_sc rfl rfl ls_nil)))) (sn_Mo_makeVersion_92 hk12 h)
    · rw [if_neg g36] at h
      refine bk_zf tb_c_181_1 rfl (pc' := 87) rfl (t := 91) rfl (cm_eq_f g36) ?_
      refine bk_b (q := (92, [(0, .ref 135), (1, .int l1), (2, .int l2), (3, .int l3), (4, .int l4), (5, .int l5)], [.int (0 : Int32), .int l3])) tb_c_181_1 mx_181 2 rfl ?_
      exact go_lv (ls_sc rfl rfl (ls_sc rfl rfl (ls_sc rfl rfl (ls_sc rfl rfl ls_nil)))) (sn_Mo_makeVersion_92 hk12 h)
noncomputable def fn_Mo_makeVersion_43 (kk12 : Int32 → Int32 → Int32 → Int32 → wd_S → Option wd_S) (l1 : Int32) (l2 : Int32) (l3 : Int32) (l4 : Int32) (s0 : Int32) (S : wd_S) : Option wd_S :=
  (if (l4 < 0 ∨ 16 ≤ l4.toNatClampNeg) ∨ ¬mi_fit .boolean (.int s0) = true then none else
  (wd_b (wd_i S 169 l4.toNatClampNeg s0) fun S32 =>
  (if s0 = 0 then
    fn_Mo_makeVersion_80 kk12 l1 l2 l3 l4 s0 l4 l3 S32
  else
    (if (((4 : Int32) * l1) + l4) < 0 ∨ 640 ≤ (((4 : Int32) * l1) + l4).toNatClampNeg then none else
    fn_Mo_makeVersion_80 kk12 l1 l2 l3 l4 s0 l4 (S32.1 161 (((4 : Int32) * l1) + l4).toNatClampNeg) S32))))
set_option maxRecDepth 100000 in
theorem sn_Mo_makeVersion_43 {L : Nat} {xs : Nat → Int32} {kk12 : Int32 → Int32 → Int32 → Int32 → wd_S → Option wd_S} (hk12 : ∀ {l1 : Int32} {l2 : Int32} {l3 : Int32} {l4 : Int32} {S : wd_S} {S' : wd_S}, kk12 l1 l2 l3 l4 S = some S' → go_r tb_P L xs 5 181 12 [(0, .ref 135), (1, .int l1), (2, .int l2), (3, .int l3), (4, .int l4)] [] (wd_k S) (.inl none, wd_k S')) {l1 : Int32} {l2 : Int32} {l3 : Int32} {l4 : Int32} {s0 : Int32} {S : wd_S} {S' : wd_S} (h : fn_Mo_makeVersion_43 kk12 l1 l2 l3 l4 s0 S = some S') : go_r tb_P L xs 5 181 43 [(0, .ref 135), (1, .int l1), (2, .int l2), (3, .int l3), (4, .int l4)] [.int s0] (wd_k S) (.inl none, wd_k S') := by
  unfold fn_Mo_makeVersion_43 at h
  refine bk_b (q := (46, [(5, .int s0), (0, .ref 135), (1, .int l1), (2, .int l2), (3, .int l3), (4, .int l4)], [.ref 135])) tb_c_181_0 mx_181 2 rfl ?_
  refine bk_gc tb_c_181_0 rfl rfl (ci := 11) (k := 80) rfl rfl rfl ?_
  refine bk_b (q := (53, [(5, .int s0), (0, .ref 135), (1, .int l1), (2, .int l2), (3, .int l3), (4, .int l4)], [.int s0, .int l4, .ref 169])) tb_c_181_0 mx_181 2 rfl ?_
  by_cases g31 : (l4 < 0 ∨ 16 ≤ l4.toNatClampNeg) ∨ ¬mi_fit .boolean (.int s0) = true
  · rw [if_pos g31] at h; cases h
  · rw [if_neg g31] at h
    obtain ⟨S32, eS32, h⟩ := wd_bx h
    refine bk_s1 tb_c_181_0 rfl rfl rfl (fun q => g31 (Or.inl q)) (Decidable.not_not.mp (fun q => g31 (Or.inr q))) ?_
    rw [eS32]
    refine bk_b (q := (55, [(5, .int s0), (0, .ref 135), (1, .int l1), (2, .int l2), (3, .int l3), (4, .int l4)], [.ref 135])) tb_c_181_0 mx_181 1 rfl ?_
    refine bk_gc tb_c_181_0 rfl rfl (ci := 11) (k := 81) rfl rfl rfl ?_
    refine bk_b (q := (62, [(5, .int s0), (0, .ref 135), (1, .int l1), (2, .int l2), (3, .int l3), (4, .int l4)], [.int s0, .int l4, .ref 170])) tb_c_181_0 mx_181 2 rfl ?_
    by_cases g33 : s0 = 0
    · rw [if_pos g33] at h
      refine bk_zt tb_c_181_0 rfl (pc' := 79) rfl (cm_eq_t g33) ?_
      refine bk_b (q := (80, [(5, .int s0), (0, .ref 135), (1, .int l1), (2, .int l2), (3, .int l3), (4, .int l4)], [.int l3, .int l4, .ref 170])) tb_c_181_1 mx_181 1 rfl ?_
      exact go_lv (ls_sc rfl rfl (ls_sc rfl rfl (ls_sc rfl rfl (ls_sc rfl rfl (ls_sc rfl rfl (ls_sc rfl rfl ls_nil)))))) (sn_Mo_makeVersion_80 hk12 h)
    · rw [if_neg g33] at h
      refine bk_zf tb_c_181_0 rfl (pc' := 65) rfl (t := 79) rfl (cm_eq_f g33) ?_
      refine bk_b (q := (66, [(5, .int s0), (0, .ref 135), (1, .int l1), (2, .int l2), (3, .int l3), (4, .int l4)], [.ref 135, .int l4, .ref 170])) tb_c_181_0 mx_181 1 rfl ?_
      refine bk_gc tb_c_181_1 rfl rfl (ci := 11) (k := 55) rfl rfl rfl ?_
      refine bk_b (q := (75, [(5, .int s0), (0, .ref 135), (1, .int l1), (2, .int l2), (3, .int l3), (4, .int l4)], [.int (((4 : Int32) * l1) + l4), .ref 161, .int l4, .ref 170])) tb_c_181_1 mx_181 5 rfl ?_
      by_cases g37 : (((4 : Int32) * l1) + l4) < 0 ∨ 640 ≤ (((4 : Int32) * l1) + l4).toNatClampNeg
      · rw [if_pos g37] at h; cases h
      · rw [if_neg g37] at h
        refine bk_a4 tb_c_181_1 rfl rfl rfl g37 ?_
        refine bk_b (q := (80, [(5, .int s0), (0, .ref 135), (1, .int l1), (2, .int l2), (3, .int l3), (4, .int l4)], [.int (S32.1 161 (((4 : Int32) * l1) + l4).toNatClampNeg), .int l4, .ref 170])) tb_c_181_1 mx_181 1 rfl ?_
        exact go_lv (ls_sc rfl rfl (ls_sc rfl rfl (ls_sc rfl rfl (ls_sc rfl rfl (ls_sc rfl rfl (ls_sc rfl rfl ls_nil)))))) (sn_Mo_makeVersion_80 hk12 h)
noncomputable def fn_Mo_makeVersion_12 : Nat → Int32 → Int32 → Int32 → Int32 → wd_S → Option wd_S
  | 0, _, _, _, _, _ => none
  | n + 1, l1, l2, l3, l4, S =>
    (if l2 < 0 ∨ 96 ≤ l2.toNatClampNeg then none else
    (if l4 < (S.1 138 l2.toNatClampNeg) then
      (if l1 < 0 ∨ 160 ≤ l1.toNatClampNeg then none else
      (if (((S.1 160 l1.toNatClampNeg) >>> (l4 &&& 31)) &&& (1 : Int32)) = (1 : Int32) then
        fn_Mo_makeVersion_43 (fn_Mo_makeVersion_12 n) l1 l2 l3 l4 (1 : Int32) S
      else
        fn_Mo_makeVersion_43 (fn_Mo_makeVersion_12 n) l1 l2 l3 l4 (0 : Int32) S))
    else
      (wd_b (wd_i S 135 70 (0 : Int32)) fun S4 =>
      (wd_b (wd_i S4 135 76 (0 : Int32)) fun S5 =>
      (wd_b (wd_i S5 135 79 (0 : Int32)) fun S6 =>
      (if l2 < 0 ∨ 96 ≤ l2.toNatClampNeg then none else
      (wd_d (fn_Mo_later (1 : Int32) (S6.1 140 l2.toNatClampNeg) S6) fun S8 =>
      fn_Mo_makeVersion_132 wd_F l1 (S.1 135 66) S8)))))))
set_option maxRecDepth 100000 in
theorem sn_Mo_makeVersion_12 {L : Nat} {xs : Nat → Int32} : ∀ (n : Nat) {l1 : Int32} {l2 : Int32} {l3 : Int32} {l4 : Int32} {S : wd_S} {S' : wd_S}, fn_Mo_makeVersion_12 n l1 l2 l3 l4 S = some S' → go_r tb_P L xs 5 181 12 [(0, .ref 135), (1, .int l1), (2, .int l2), (3, .int l3), (4, .int l4)] [] (wd_k S) (.inl none, wd_k S') := by
  intro n
  induction n with
  | zero => intro l1 l2 l3 l4 S S'  h; cases h
  | succ n ih =>
    intro l1 l2 l3 l4 S S'  h
    rw [fn_Mo_makeVersion_12] at h
    refine bk_b (q := (15, [(0, .ref 135), (1, .int l1), (2, .int l2), (3, .int l3), (4, .int l4)], [.ref 135, .int l4])) tb_c_181_0 mx_181 2 rfl ?_
    refine bk_gc tb_c_181_0 rfl rfl (ci := 11) (k := 12) rfl rfl rfl ?_
    refine bk_b (q := (19, [(0, .ref 135), (1, .int l1), (2, .int l2), (3, .int l3), (4, .int l4)], [.int l2, .ref 138, .int l4])) tb_c_181_0 mx_181 1 rfl ?_
    by_cases g2 : l2 < 0 ∨ 96 ≤ l2.toNatClampNeg
    · rw [if_pos g2] at h; cases h
    · rw [if_neg g2] at h
      refine bk_a4 tb_c_181_0 rfl rfl rfl g2 ?_
      by_cases g3 : l4 < (S.1 138 l2.toNatClampNeg)
      · rw [if_pos g3] at h
        refine bk_jf tb_c_181_0 rfl (pc' := 23) rfl (t := 100) rfl (cm_ge_f g3) ?_
        refine bk_b (q := (24, [(0, .ref 135), (1, .int l1), (2, .int l2), (3, .int l3), (4, .int l4)], [.ref 135])) tb_c_181_0 mx_181 1 rfl ?_
        refine bk_gc tb_c_181_0 rfl rfl (ci := 11) (k := 54) rfl rfl rfl ?_
        refine bk_b (q := (28, [(0, .ref 135), (1, .int l1), (2, .int l2), (3, .int l3), (4, .int l4)], [.int l1, .ref 160])) tb_c_181_0 mx_181 1 rfl ?_
        by_cases g29 : l1 < 0 ∨ 160 ≤ l1.toNatClampNeg
        · rw [if_pos g29] at h; cases h
        · rw [if_neg g29] at h
          refine bk_a4 tb_c_181_0 rfl rfl rfl g29 ?_
          refine bk_b (q := (35, [(0, .ref 135), (1, .int l1), (2, .int l2), (3, .int l3), (4, .int l4)], [.int (1 : Int32), .int (((S.1 160 l1.toNatClampNeg) >>> (l4 &&& 31)) &&& (1 : Int32))])) tb_c_181_0 mx_181 5 rfl ?_
          by_cases g30 : (((S.1 160 l1.toNatClampNeg) >>> (l4 &&& 31)) &&& (1 : Int32)) = (1 : Int32)
          · rw [if_pos g30] at h
            refine bk_jf tb_c_181_0 rfl (pc' := 38) rfl (t := 42) rfl (cm_ne_f g30) ?_
            refine bk_b (q := (43, [(0, .ref 135), (1, .int l1), (2, .int l2), (3, .int l3), (4, .int l4)], [.int (1 : Int32)])) tb_c_181_0 mx_181 2 rfl ?_
            exact go_lv (ls_sc rfl rfl (ls_sc rfl rfl (ls_sc rfl rfl (ls_sc rfl rfl (ls_sc rfl rfl ls_nil))))) (sn_Mo_makeVersion_43 ih h)
          · rw [if_neg g30] at h
            refine bk_jt tb_c_181_0 rfl (pc' := 42) rfl (cm_ne_t g30) ?_
            refine bk_b (q := (43, [(0, .ref 135), (1, .int l1), (2, .int l2), (3, .int l3), (4, .int l4)], [.int (0 : Int32)])) tb_c_181_0 mx_181 1 rfl ?_
            exact go_lv (ls_sc rfl rfl (ls_sc rfl rfl (ls_sc rfl rfl (ls_sc rfl rfl (ls_sc rfl rfl ls_nil))))) (sn_Mo_makeVersion_43 ih h)
      · rw [if_neg g3] at h
        refine bk_jt tb_c_181_0 rfl (pc' := 100) rfl (cm_ge_t g3) ?_
        refine bk_b (q := (101, [(0, .ref 135), (1, .int l1), (2, .int l2), (3, .int l3), (4, .int l4)], [.ref 135])) tb_c_181_1 mx_181 1 rfl ?_
        refine bk_gi tb_c_181_1 rfl rfl (ci := 11) (k := 66) rfl rfl rfl ?_
        refine bk_b (q := (108, [(4, .int (S.1 135 66)), (0, .ref 135), (1, .int l1), (2, .int l2), (3, .int l3)], [.int (0 : Int32), .ref 135])) tb_c_181_1 mx_181 3 rfl ?_
        obtain ⟨S4, eS4, h⟩ := wd_bx h
        refine bk_pi tb_c_181_1 rfl rfl (ci := 11) (k := 70) rfl rfl rfl rfl ?_
        rw [eS4]
        refine bk_b (q := (113, [(4, .int (S.1 135 66)), (0, .ref 135), (1, .int l1), (2, .int l2), (3, .int l3)], [.int (0 : Int32), .ref 135])) tb_c_181_1 mx_181 2 rfl ?_
        obtain ⟨S5, eS5, h⟩ := wd_bx h
        refine bk_pi tb_c_181_1 rfl rfl (ci := 11) (k := 76) rfl rfl rfl rfl ?_
        rw [eS5]
        refine bk_b (q := (118, [(4, .int (S.1 135 66)), (0, .ref 135), (1, .int l1), (2, .int l2), (3, .int l3)], [.int (0 : Int32), .ref 135])) tb_c_181_1 mx_181 2 rfl ?_
        obtain ⟨S6, eS6, h⟩ := wd_bx h
        refine bk_pi tb_c_181_1 rfl rfl (ci := 11) (k := 79) rfl rfl rfl rfl ?_
        rw [eS6]
        refine bk_b (q := (124, [(4, .int (S.1 135 66)), (0, .ref 135), (1, .int l1), (2, .int l2), (3, .int l3)], [.ref 135, .int (1 : Int32), .ref 135])) tb_c_181_1 mx_181 3 rfl ?_
        refine bk_gc tb_c_181_1 rfl rfl (ci := 11) (k := 14) rfl rfl rfl ?_
        refine bk_b (q := (128, [(4, .int (S.1 135 66)), (0, .ref 135), (1, .int l1), (2, .int l2), (3, .int l3)], [.int l2, .ref 140, .int (1 : Int32), .ref 135])) tb_c_181_1 mx_181 1 rfl ?_
        by_cases g7 : l2 < 0 ∨ 96 ≤ l2.toNatClampNeg
        · rw [if_pos g7] at h; cases h
        · rw [if_neg g7] at h
          refine bk_a4 tb_c_181_1 rfl rfl rfl g7 ?_
          obtain ⟨S8, c10, h⟩ := wd_dx h
          refine bk_kv tb_c_181_1 rfl rfl rfl rfl rfl (ci := 11) rfl rfl (ev_up (Nat.le_of_ble_eq_true rfl) (sn_Mo_later c10)) ?_
          exact go_lv (ls_sc rfl rfl (ls_sc rfl rfl (ls_sc rfl rfl ls_nil))) (sn_Mo_makeVersion_132 wd_F h)
/-- SpecialiserModel.makeVersion(I)V -/
noncomputable def fn_Mo_makeVersion (p1 : Int32) (S : wd_S) : Option wd_S :=
  (if p1 < 0 ∨ 160 ≤ p1.toNatClampNeg then none else
  fn_Mo_makeVersion_12 wd_F p1 (S.1 159 p1.toNatClampNeg) (0 : Int32) (0 : Int32) S)
set_option maxRecDepth 100000 in
theorem sn_Mo_makeVersion {L : Nat} {xs : Nat → Int32} {p1 : Int32} {S : wd_S} {S' : wd_S} (h : fn_Mo_makeVersion p1 S = some S') : ev_r tb_P L xs (5 + 1) 181 [.ref 135, .int p1] (wd_k S) (.inl none, wd_k S') := by
  unfold fn_Mo_makeVersion at h
  refine ev_of (Nat.le_of_ble_eq_true rfl) ?_
  show go_r tb_P L xs 5 181 0 [(0, .ref 135), (1, .int p1)] [] (wd_k S) (.inl none, wd_k S')
  refine bk_b (q := (1, [(0, .ref 135), (1, .int p1)], [.ref 135])) tb_c_181_0 mx_181 1 rfl ?_
  refine bk_gc tb_c_181_0 rfl rfl (ci := 11) (k := 53) rfl rfl rfl ?_
  refine bk_b (q := (5, [(0, .ref 135), (1, .int p1)], [.int p1, .ref 159])) tb_c_181_0 mx_181 1 rfl ?_
  by_cases g1 : p1 < 0 ∨ 160 ≤ p1.toNatClampNeg
  · rw [if_pos g1] at h; cases h
  · rw [if_neg g1] at h
    refine bk_a4 tb_c_181_0 rfl rfl rfl g1 ?_
    refine bk_b (q := (12, [(4, .int (0 : Int32)), (3, .int (0 : Int32)), (2, .int (S.1 159 p1.toNatClampNeg)), (0, .ref 135), (1, .int p1)], [])) tb_c_181_0 mx_181 5 rfl ?_
    exact go_lv (ls_sc rfl rfl (ls_sc rfl rfl (ls_sc rfl rfl (ls_sc rfl rfl (ls_sc rfl rfl ls_nil))))) (sn_Mo_makeVersion_12 wd_F h)
