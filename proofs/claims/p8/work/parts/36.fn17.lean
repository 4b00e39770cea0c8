/-! Methods as functions: printed by wip/whole/gen_fn.py. -/
theorem mx_173 : mi_mx tb_P 173 = 5 := rfl
noncomputable def fn_Mo_onJudge_382 (S : wd_S) : Option wd_S :=
  some S
set_option maxRecDepth 100000 in
theorem sn_Mo_onJudge_382 {L : Nat} {xs : Nat → Int32} {S : wd_S} {S' : wd_S} (h : fn_Mo_onJudge_382  S = some S') : go_r tb_P L xs 1 173 382 [] [] (wd_k S) (.inl none, wd_k S') := by
  unfold fn_Mo_onJudge_382 at h
  cases h
  exact bk_t tb_c_173_5 rfl rfl
noncomputable def fn_Mo_onJudge_126 (l1 : Int32) (l2 : Int32) (S : wd_S) : Option wd_S :=
  (if l1 < 0 ∨ 15010 ≤ l1.toNatClampNeg then none else
  (wd_b (wd_i S 144 l1.toNatClampNeg l2) fun S46 =>
  fn_Mo_onJudge_382  S46))
set_option maxRecDepth 100000 in
theorem sn_Mo_onJudge_126 {L : Nat} {xs : Nat → Int32} {l1 : Int32} {l2 : Int32} {S : wd_S} {S' : wd_S} (h : fn_Mo_onJudge_126 l1 l2 S = some S') : go_r tb_P L xs 1 173 126 [(0, .ref 135), (1, .int l1), (2, .int l2)] [] (wd_k S) (.inl none, wd_k S') := by
  unfold fn_Mo_onJudge_126 at h
  refine bk_b (q := (127, [(0, .ref 135), (1, .int l1), (2, .int l2)], [.ref 135])) tb_c_173_1 mx_173 1 rfl ?_
  refine bk_gc tb_c_173_1 rfl rfl (ci := 11) (k := 18) rfl rfl rfl ?_
  refine bk_b (q := (132, [(0, .ref 135), (1, .int l1), (2, .int l2)], [.int l2, .int l1, .ref 144])) tb_c_173_1 mx_173 2 rfl ?_
  by_cases g45 : l1 < 0 ∨ 15010 ≤ l1.toNatClampNeg
  · rw [if_pos g45] at h; cases h
  · rw [if_neg g45] at h
    obtain ⟨S46, eS46, h⟩ := wd_bx h
    refine bk_s4 tb_c_173_1 rfl rfl rfl g45 ?_
    rw [eS46]
    refine bk_b (q := (382, [(0, .ref 135), (1, .int l1), (2, .int l2)], [])) tb_c_173_1 mx_173 1 rfl ?_
    exact go_lv ls_nil (sn_Mo_onJudge_382 h)
noncomputable def fn_Mo_onJudge_103 (kk56 : Int32 → Int32 → Int32 → wd_S → Option wd_S) (l1 : Int32) (l3 : Int32) (s0 : Int32) (S : wd_S) : Option wd_S :=
  kk56 l1 s0 (l3 + (1 : Int32)) S
set_option maxRecDepth 100000 in
theorem sn_Mo_onJudge_103 {L : Nat} {xs : Nat → Int32} {kk56 : Int32 → Int32 → Int32 → wd_S → Option wd_S} (hk56 : ∀ {l1 : Int32} {l2 : Int32} {l3 : Int32} {S : wd_S} {S' : wd_S}, kk56 l1 l2 l3 S = some S' → go_r tb_P L xs 1 173 56 [(0, .ref 135), (1, .int l1), (2, .int l2), (3, .int l3)] [] (wd_k S) (.inl none, wd_k S')) {l1 : Int32} {l3 : Int32} {s0 : Int32} {S : wd_S} {S' : wd_S} (h : fn_Mo_onJudge_103 kk56 l1 l3 s0 S = some S') : go_r tb_P L xs 1 173 103 [(0, .ref 135), (1, .int l1), (3, .int l3)] [.int s0] (wd_k S) (.inl none, wd_k S') := by
  unfold fn_Mo_onJudge_103 at h
  refine bk_b (q := (56, [(3, .int (l3 + (1 : Int32))), (2, .int s0), (0, .ref 135), (1, .int l1)], [])) tb_c_173_0 mx_173 3 rfl ?_
  exact go_lv (ls_sc rfl rfl (ls_sc rfl rfl (ls_sc rfl rfl (ls_sc rfl rfl ls_nil)))) (hk56 h)
noncomputable def fn_Mo_onJudge_56 : Nat → Int32 → Int32 → Int32 → wd_S → Option wd_S
  | 0, _, _, _, _ => none
  | n + 1, l1, l2, l3, S =>
    (if l3 < (S.1 135 40) then
      (if l3 < 0 ∨ 16 ≤ l3.toNatClampNeg then none else
      (if (((16 : Int32) * (S.1 135 31)) + (S.1 156 l3.toNatClampNeg)) < 0 ∨ 1536 ≤ (((16 : Int32) * (S.1 135 31)) + (S.1 156 l3.toNatClampNeg)).toNatClampNeg then none else
      (if l1 < 0 ∨ 15010 ≤ l1.toNatClampNeg then none else
      (if (lg_cmp (S.2.1 142 (((16 : Int32) * (S.1 135 31)) + (S.1 156 l3.toNatClampNeg)).toNatClampNeg) (S.2.1 148 l1.toNatClampNeg)) = 0 then
        (if l3 < 0 ∨ 16 ≤ l3.toNatClampNeg then none else
        fn_Mo_onJudge_103 (fn_Mo_onJudge_56 n) l1 l3 (S.1 156 l3.toNatClampNeg) S)
      else
        fn_Mo_onJudge_103 (fn_Mo_onJudge_56 n) l1 l3 l2 S))))
    else
      (if l2 = (-1 : Int32) then
        (if l1 < 0 ∨ 15010 ≤ l1.toNatClampNeg then none else
        (wd_d (fn_Mo_stop (4 : Int32) (S.1 147 l1.toNatClampNeg) S) fun S48 =>
        fn_Mo_onJudge_126 l1 l2 S48))
      else
        fn_Mo_onJudge_126 l1 l2 S))
set_option maxRecDepth 100000 in
theorem sn_Mo_onJudge_56 {L : Nat} {xs : Nat → Int32} : ∀ (n : Nat) {l1 : Int32} {l2 : Int32} {l3 : Int32} {S : wd_S} {S' : wd_S}, fn_Mo_onJudge_56 n l1 l2 l3 S = some S' → go_r tb_P L xs 1 173 56 [(0, .ref 135), (1, .int l1), (2, .int l2), (3, .int l3)] [] (wd_k S) (.inl none, wd_k S') := by
  intro n
  induction n with
  | zero => intro l1 l2 l3 S S'  h; cases h
  | succ n ih =>
    intro l1 l2 l3 S S'  h
    rw [fn_Mo_onJudge_56] at h
    refine bk_b (q := (58, [(0, .ref 135), (1, .int l1), (2, .int l2), (3, .int l3)], [.ref 135, .int l3])) tb_c_173_0 mx_173 2 rfl ?_
    refine bk_gi tb_c_173_0 rfl rfl (ci := 11) (k := 40) rfl rfl rfl ?_
    by_cases g43 : l3 < (S.1 135 40)
    · rw [if_pos g43] at h
      refine bk_jf tb_c_173_0 rfl (pc' := 64) rfl (t := 110) rfl (cm_ge_f g43) ?_
      refine bk_b (q := (65, [(0, .ref 135), (1, .int l1), (2, .int l2), (3, .int l3)], [.ref 135])) tb_c_173_0 mx_173 1 rfl ?_
      refine bk_gc tb_c_173_0 rfl rfl (ci := 11) (k := 16) rfl rfl rfl ?_
      refine bk_b (q := (71, [(0, .ref 135), (1, .int l1), (2, .int l2), (3, .int l3)], [.ref 135, .int (16 : Int32), .ref 142])) tb_c_173_0 mx_173 2 rfl ?_
      refine bk_gi tb_c_173_0 rfl rfl (ci := 11) (k := 31) rfl rfl rfl ?_
      refine bk_b (q := (76, [(0, .ref 135), (1, .int l1), (2, .int l2), (3, .int l3)], [.ref 135, .int ((16 : Int32) * (S.1 135 31)), .ref 142])) tb_c_173_0 mx_173 2 rfl ?_
      refine bk_gc tb_c_173_0 rfl rfl (ci := 11) (k := 39) rfl rfl rfl ?_
      refine bk_b (q := (80, [(0, .ref 135), (1, .int l1), (2, .int l2), (3, .int l3)], [.int l3, .ref 156, .int ((16 : Int32) * (S.1 135 31)), .ref 142])) tb_c_173_0 mx_173 1 rfl ?_
      by_cases g51 : l3 < 0 ∨ 16 ≤ l3.toNatClampNeg
      · rw [if_pos g51] at h; cases h
      · rw [if_neg g51] at h
        refine bk_a4 tb_c_173_0 rfl rfl rfl g51 ?_
        refine bk_b (q := (82, [(0, .ref 135), (1, .int l1), (2, .int l2), (3, .int l3)], [.int (((16 : Int32) * (S.1 135 31)) + (S.1 156 l3.toNatClampNeg)), .ref 142])) tb_c_173_0 mx_173 1 rfl ?_
        by_cases g52 : (((16 : Int32) * (S.1 135 31)) + (S.1 156 l3.toNatClampNeg)) < 0 ∨ 1536 ≤ (((16 : Int32) * (S.1 135 31)) + (S.1 156 l3.toNatClampNeg)).toNatClampNeg
        · rw [if_pos g52] at h; cases h
        · rw [if_neg g52] at h
          refine bk_a8 tb_c_173_0 rfl rfl rfl g52 ?_
          refine bk_b (q := (84, [(0, .ref 135), (1, .int l1), (2, .int l2), (3, .int l3)], [.ref 135, .long (S.2.1 142 (((16 : Int32) * (S.1 135 31)) + (S.1 156 l3.toNatClampNeg)).toNatClampNeg)])) tb_c_173_0 mx_173 1 rfl ?_
          refine bk_gc tb_c_173_0 rfl rfl (ci := 11) (k := 22) rfl rfl rfl ?_
          refine bk_b (q := (88, [(0, .ref 135), (1, .int l1), (2, .int l2), (3, .int l3)], [.int l1, .ref 148, .long (S.2.1 142 (((16 : Int32) * (S.1 135 31)) + (S.1 156 l3.toNatClampNeg)).toNatClampNeg)])) tb_c_173_0 mx_173 1 rfl ?_
          by_cases g53 : l1 < 0 ∨ 15010 ≤ l1.toNatClampNeg
          · rw [if_pos g53] at h; cases h
          · rw [if_neg g53] at h
            refine bk_a8 tb_c_173_0 rfl rfl rfl g53 ?_
            refine bk_b (q := (90, [(0, .ref 135), (1, .int l1), (2, .int l2), (3, .int l3)], [.int (lg_cmp (S.2.1 142 (((16 : Int32) * (S.1 135 31)) + (S.1 156 l3.toNatClampNeg)).toNatClampNeg) (S.2.1 148 l1.toNatClampNeg))])) tb_c_173_0 mx_173 1 rfl ?_
            by_cases g54 : (lg_cmp (S.2.1 142 (((16 : Int32) * (S.1 135 31)) + (S.1 156 l3.toNatClampNeg)).toNatClampNeg) (S.2.1 148 l1.toNatClampNeg)) = 0
            · rw [if_pos g54] at h
              refine bk_zf tb_c_173_0 rfl (pc' := 93) rfl (t := 102) rfl (cm_ne_f g54) ?_
              refine bk_b (q := (94, [(0, .ref 135), (1, .int l1), (2, .int l2), (3, .int l3)], [.ref 135])) tb_c_173_0 mx_173 1 rfl ?_
              refine bk_gc tb_c_173_0 rfl rfl (ci := 11) (k := 39) rfl rfl rfl ?_
              refine bk_b (q := (98, [(0, .ref 135), (1, .int l1), (2, .int l2), (3, .int l3)], [.int l3, .ref 156])) tb_c_173_0 mx_173 1 rfl ?_
              by_cases g55 : l3 < 0 ∨ 16 ≤ l3.toNatClampNeg
              · rw [if_pos g55] at h; cases h
              · rw [if_neg g55] at h
                refine bk_a4 tb_c_173_0 rfl rfl rfl g55 ?_
                refine bk_b (q := (103, [(0, .ref 135), (1, .int l1), (2, .int l2), (3, .int l3)], [.int (S.1 156 l3.toNatClampNeg)])) tb_c_173_0 mx_173 1 rfl ?_
                exact go_lv (ls_sc rfl rfl (ls_sc rfl rfl (ls_sc rfl rfl ls_nil))) (sn_Mo_onJudge_103 ih h)
            · rw [if_neg g54] at h
              refine bk_zt tb_c_173_0 rfl (pc' := 102) rfl (cm_ne_t g54) ?_
              refine bk_b (q := (103, [(0, .ref 135), (1, .int l1), (2, .int l2), (3, .int l3)], [.int l2])) tb_c_173_0 mx_173 1 rfl ?_
              exact go_lv (ls_sc rfl rfl (ls_sc rfl rfl (ls_sc rfl rfl ls_nil))) (sn_Mo_onJudge_103 ih h)
    · rw [if_neg g43] at h
      refine bk_jt tb_c_173_0 rfl (pc' := 110) rfl (cm_ge_t g43) ?_
      refine bk_b (q := (112, [(0, .ref 135), (1, .int l1), (2, .int l2), (3, .int l3)], [.int (-1 : Int32), .int l2])) tb_c_173_1 mx_173 2 rfl ?_
      by_cases g44 : l2 = (-1 : Int32)
      · rw [if_pos g44] at h
        refine bk_jf tb_c_173_1 rfl (pc' := 115) rfl (t := 126) rfl (cm_ne_f g44) ?_
        refine bk_b (q := (118, [(0, .ref 135), (1, .int l1), (2, .int l2), (3, .int l3)], [.ref 135, .int (4 : Int32), .ref 135])) tb_c_173_1 mx_173 3 rfl ?_
        refine bk_gc tb_c_173_1 rfl rfl (ci := 11) (k := 21) rfl rfl rfl ?_
        refine bk_b (q := (122, [(0, .ref 135), (1, .int l1), (2, .int l2), (3, .int l3)], [.int l1, .ref 147, .int (4 : Int32), .ref 135])) tb_c_173_1 mx_173 1 rfl ?_
        by_cases g47 : l1 < 0 ∨ 15010 ≤ l1.toNatClampNeg
        · rw [if_pos g47] at h; cases h
        · rw [if_neg g47] at h
          refine bk_a4 tb_c_173_1 rfl rfl rfl g47 ?_
          obtain ⟨S48, c50, h⟩ := wd_dx h
          refine bk_kv tb_c_173_1 rfl rfl rfl rfl rfl (ci := 11) rfl rfl (ev_up (Nat.le_of_ble_eq_true rfl) (sn_Mo_stop c50)) ?_
          exact go_lv (ls_sc rfl rfl (ls_sc rfl rfl (ls_sc rfl rfl ls_nil))) (sn_Mo_onJudge_126 h)
      · rw [if_neg g44] at h
        refine bk_jt tb_c_173_1 rfl (pc' := 126) rfl (cm_ne_t g44) ?_
        exact go_lv (ls_sc rfl rfl (ls_sc rfl rfl (ls_sc rfl rfl ls_nil))) (sn_Mo_onJudge_126 h)
noncomputable def fn_Mo_onJudge_349 : Nat → Int32 → Int32 → wd_S → Option wd_S
  | 0, _, _, _ => none
  | n + 1, l1, l4, S =>
    (if l4 < 0 then
      fn_Mo_onJudge_382  S
    else
      (if l1 < 0 ∨ 15010 ≤ l1.toNatClampNeg then none else
      (if ((S.1 144 l1.toNatClampNeg) + l4) < 0 ∨ 15010 ≤ ((S.1 144 l1.toNatClampNeg) + l4).toNatClampNeg then none else
      (wd_d (fn_Mo_push (1 : Int32) (S.1 149 ((S.1 144 l1.toNatClampNeg) + l4).toNatClampNeg) S) fun S70 =>
      fn_Mo_onJudge_349 n l1 (l4 + (-1 : Int32)) S70))))
set_option maxRecDepth 100000 in
theorem sn_Mo_onJudge_349 {L : Nat} {xs : Nat → Int32} : ∀ (n : Nat) {l1 : Int32} {l4 : Int32} {S : wd_S} {S' : wd_S}, fn_Mo_onJudge_349 n l1 l4 S = some S' → go_r tb_P L xs 1 173 349 [(0, .ref 135), (1, .int l1), (4, .int l4)] [] (wd_k S) (.inl none, wd_k S') := by
  intro n
  induction n with
  | zero => intro l1 l4 S S'  h; cases h
  | succ n ih =>
    intro l1 l4 S S'  h
    rw [fn_Mo_onJudge_349] at h
    refine bk_b (q := (351, [(0, .ref 135), (1, .int l1), (4, .int l4)], [.int l4])) tb_c_173_4 mx_173 1 rfl ?_
    by_cases g67 : l4 < 0
    · rw [if_pos g67] at h
      refine bk_zt tb_c_173_4 rfl (pc' := 379) rfl (cm_lt_t g67) ?_
      refine bk_b (q := (382, [(0, .ref 135), (1, .int l1), (4, .int l4)], [])) tb_c_173_5 mx_173 1 rfl ?_
      exact go_lv ls_nil (sn_Mo_onJudge_382 h)
    · rw [if_neg g67] at h
      refine bk_zf tb_c_173_4 rfl (pc' := 354) rfl (t := 379) rfl (cm_lt_f g67) ?_
      refine bk_b (q := (357, [(0, .ref 135), (1, .int l1), (4, .int l4)], [.ref 135, .int (1 : Int32), .ref 135])) tb_c_173_4 mx_173 3 rfl ?_
      refine bk_gc tb_c_173_4 rfl rfl (ci := 11) (k := 23) rfl rfl rfl ?_
      refine bk_b (q := (361, [(0, .ref 135), (1, .int l1), (4, .int l4)], [.ref 135, .ref 149, .int (1 : Int32), .ref 135])) tb_c_173_4 mx_173 1 rfl ?_
      refine bk_gc tb_c_173_4 rfl rfl (ci := 11) (k := 18) rfl rfl rfl ?_
      refine bk_b (q := (365, [(0, .ref 135), (1, .int l1), (4, .int l4)], [.int l1, .ref 144, .ref 149, .int (1 : Int32), .ref 135])) tb_c_173_4 mx_173 1 rfl ?_
      by_cases g68 : l1 < 0 ∨ 15010 ≤ l1.toNatClampNeg
      · rw [if_pos g68] at h; cases h
      · rw [if_neg g68] at h
        refine bk_a4 tb_c_173_4 rfl rfl rfl g68 ?_
        refine bk_b (q := (369, [(0, .ref 135), (1, .int l1), (4, .int l4)], [.int ((S.1 144 l1.toNatClampNeg) + l4), .ref 149, .int (1 : Int32), .ref 135])) tb_c_173_4 mx_173 2 rfl ?_
        by_cases g69 : ((S.1 144 l1.toNatClampNeg) + l4) < 0 ∨ 15010 ≤ ((S.1 144 l1.toNatClampNeg) + l4).toNatClampNeg
        · rw [if_pos g69] at h; cases h
        · rw [if_neg g69] at h
          refine bk_a4 tb_c_173_4 rfl rfl rfl g69 ?_
          obtain ⟨S70, c72, h⟩ := wd_dx h
          refine bk_kv tb_c_173_4 rfl rfl rfl rfl rfl (ci := 11) rfl rfl (ev_up (Nat.le_of_ble_eq_true rfl) (sn_Mo_push c72)) ?_
          refine bk_b (q := (349, [(4, .int (l4 + (-1 : Int32))), (0, .ref 135), (1, .int l1)], [])) tb_c_173_4 mx_173 2 rfl ?_
          exact go_lv (ls_sc rfl rfl (ls_sc rfl rfl (ls_sc rfl rfl ls_nil))) (ih h)
noncomputable def fn_Mo_onJudge_332 (l1 : Int32) (l3 : Int32) (S : wd_S) : Option wd_S :=
  (if l1 < 0 ∨ 15010 ≤ l1.toNatClampNeg then none else
  (wd_b (wd_i S 146 l1.toNatClampNeg l3) fun S65 =>
  (if l1 < 0 ∨ 15010 ≤ l1.toNatClampNeg then none else
  fn_Mo_onJudge_349 wd_F l1 ((S65.1 145 l1.toNatClampNeg) - (1 : Int32)) S65)))
set_option maxRecDepth 100000 in
theorem sn_Mo_onJudge_332 {L : Nat} {xs : Nat → Int32} {l1 : Int32} {l3 : Int32} {S : wd_S} {S' : wd_S} (h : fn_Mo_onJudge_332 l1 l3 S = some S') : go_r tb_P L xs 1 173 332 [(0, .ref 135), (1, .int l1), (3, .int l3)] [] (wd_k S) (.inl none, wd_k S') := by
  unfold fn_Mo_onJudge_332 at h
  refine bk_b (q := (333, [(0, .ref 135), (1, .int l1), (3, .int l3)], [.ref 135])) tb_c_173_4 mx_173 1 rfl ?_
  refine bk_gc tb_c_173_4 rfl rfl (ci := 11) (k := 20) rfl rfl rfl ?_
  refine bk_b (q := (338, [(0, .ref 135), (1, .int l1), (3, .int l3)], [.int l3, .int l1, .ref 146])) tb_c_173_4 mx_173 2 rfl ?_
  by_cases g64 : l1 < 0 ∨ 15010 ≤ l1.toNatClampNeg
  · rw [if_pos g64] at h; cases h
  · rw [if_neg g64] at h
    obtain ⟨S65, eS65, h⟩ := wd_bx h
    refine bk_s4 tb_c_173_4 rfl rfl rfl g64 ?_
    rw [eS65]
    refine bk_b (q := (340, [(0, .ref 135), (1, .int l1), (3, .int l3)], [.ref 135])) tb_c_173_4 mx_173 1 rfl ?_
    refine bk_gc tb_c_173_4 rfl rfl (ci := 11) (k := 19) rfl rfl rfl ?_
    refine bk_b (q := (344, [(0, .ref 135), (1, .int l1), (3, .int l3)], [.int l1, .ref 145])) tb_c_173_4 mx_173 1 rfl ?_
    by_cases g66 : l1 < 0 ∨ 15010 ≤ l1.toNatClampNeg
    · rw [if_pos g66] at h; cases h
    · rw [if_neg g66] at h
      refine bk_a4 tb_c_173_4 rfl rfl rfl g66 ?_
      refine bk_b (q := (349, [(4, .int ((S65.1 145 l1.toNatClampNeg) - (1 : Int32))), (0, .ref 135), (1, .int l1), (3, .int l3)], [])) tb_c_173_4 mx_173 3 rfl ?_
      exact go_lv (ls_sc rfl rfl (ls_sc rfl rfl (ls_sc rfl rfl ls_nil))) (sn_Mo_onJudge_349 wd_F h)
noncomputable def fn_Mo_onJudge_323 (l1 : Int32) (l3 : Int32) (s1 : Int32) (S : wd_S) : Option wd_S :=
  (if l1 < 0 ∨ 15010 ≤ l1.toNatClampNeg then none else
  (wd_d (fn_Mo_stop s1 (S.1 147 l1.toNatClampNeg) S) fun S61 =>
  fn_Mo_onJudge_332 l1 l3 S61))
set_option maxRecDepth 100000 in
theorem sn_Mo_onJudge_323 {L : Nat} {xs : Nat → Int32} {l1 : Int32} {l3 : Int32} {s1 : Int32} {S : wd_S} {S' : wd_S} (h : fn_Mo_onJudge_323 l1 l3 s1 S = some S') : go_r tb_P L xs 1 173 323 [(0, .ref 135), (1, .int l1), (3, .int l3)] [.int s1, .ref 135] (wd_k S) (.inl none, wd_k S') := by
  unfold fn_Mo_onJudge_323 at h
  refine bk_b (q := (324, [(0, .ref 135), (1, .int l1), (3, .int l3)], [.ref 135, .int s1, .ref 135])) tb_c_173_4 mx_173 1 rfl ?_
  refine bk_gc tb_c_173_4 rfl rfl (ci := 11) (k := 21) rfl rfl rfl ?_
  refine bk_b (q := (328, [(0, .ref 135), (1, .int l1), (3, .int l3)], [.int l1, .ref 147, .int s1, .ref 135])) tb_c_173_4 mx_173 1 rfl ?_
  by_cases g60 : l1 < 0 ∨ 15010 ≤ l1.toNatClampNeg
  · rw [if_pos g60] at h; cases h
  · rw [if_neg g60] at h
    refine bk_a4 tb_c_173_4 rfl rfl rfl g60 ?_
    obtain ⟨S61, c63, h⟩ := wd_dx h
    refine bk_kv tb_c_173_4 rfl rfl rfl rfl rfl (ci := 11) rfl rfl (ev_up (Nat.le_of_ble_eq_true rfl) (sn_Mo_stop c63)) ?_
    exact go_lv (ls_sc rfl rfl (ls_sc rfl rfl (ls_sc rfl rfl ls_nil))) (sn_Mo_onJudge_332 h)
noncomputable def fn_Mo_onJudge_312 (l1 : Int32) (l3 : Int32) (S : wd_S) : Option wd_S :=
  (if l3 = (-1 : Int32) then
    fn_Mo_onJudge_323 l1 l3 (4 : Int32) S
  else
    fn_Mo_onJudge_323 l1 l3 (5 : Int32) S)
set_option maxRecDepth 100000 in
theorem sn_Mo_onJudge_312 {L : Nat} {xs : Nat → Int32} {l1 : Int32} {l3 : Int32} {S : wd_S} {S' : wd_S} (h : fn_Mo_onJudge_312 l1 l3 S = some S') : go_r tb_P L xs 1 173 312 [(0, .ref 135), (1, .int l1), (3, .int l3)] [] (wd_k S) (.inl none, wd_k S') := by
  unfold fn_Mo_onJudge_312 at h
  refine bk_b (q := (315, [(0, .ref 135), (1, .int l1), (3, .int l3)], [.int (-1 : Int32), .int l3, .ref 135])) tb_c_173_4 mx_173 3 rfl ?_
  by_cases g59 : l3 = (-1 : Int32)
  · rw [if_pos g59] at h
    refine bk_jf tb_c_173_4 rfl (pc' := 318) rfl (t := 322) rfl (cm_ne_f g59) ?_
    refine bk_b (q := (323, [(0, .ref 135), (1, .int l1), (3, .int l3)], [.int (4 : Int32), .ref 135])) tb_c_173_4 mx_173 2 rfl ?_
    exact go_lv (ls_sc rfl rfl (ls_sc rfl rfl (ls_sc rfl rfl ls_nil))) (sn_Mo_onJudge_323 h)
  · rw [if_neg g59] at h
    refine bk_jt tb_c_173_4 rfl (pc' := 322) rfl (cm_ne_t g59) ?_
    refine bk_b (q := (323, [(0, .ref 135), (1, .int l1), (3, .int l3)], [.int (5 : Int32), .ref 135])) tb_c_173_4 mx_173 1 rfl ?_
    exact go_lv (ls_sc rfl rfl (ls_sc rfl rfl (ls_sc rfl rfl ls_nil))) (sn_Mo_onJudge_323 h)
noncomputable def fn_Mo_onJudge_285 (kk245 : Int32 → Int32 → Int32 → wd_S → Option wd_S) (l1 : Int32) (l4 : Int32) (s0 : Int32) (S : wd_S) : Option wd_S :=
  kk245 l1 s0 (l4 + (1 : Int32)) S
set_option maxRecDepth 100000 in
theorem sn_Mo_onJudge_285 {L : Nat} {xs : Nat → Int32} {kk245 : Int32 → Int32 → Int32 → wd_S → Option wd_S} (hk245 : ∀ {l1 : Int32} {l3 : Int32} {l4 : Int32} {S : wd_S} {S' : wd_S}, kk245 l1 l3 l4 S = some S' → go_r tb_P L xs 1 173 245 [(0, .ref 135), (1, .int l1), (3, .int l3), (4, .int l4)] [] (wd_k S) (.inl none, wd_k S')) {l1 : Int32} {l4 : Int32} {s0 : Int32} {S : wd_S} {S' : wd_S} (h : fn_Mo_onJudge_285 kk245 l1 l4 s0 S = some S') : go_r tb_P L xs 1 173 285 [(0, .ref 135), (1, .int l1), (4, .int l4)] [.int s0] (wd_k S) (.inl none, wd_k S') := by
  unfold fn_Mo_onJudge_285 at h
  refine bk_b (q := (245, [(4, .int (l4 + (1 : Int32))), (3, .int s0), (0, .ref 135), (1, .int l1)], [])) tb_c_173_3 mx_173 3 rfl ?_
  exact go_lv (ls_sc rfl rfl (ls_sc rfl rfl (ls_sc rfl rfl (ls_sc rfl rfl ls_nil)))) (hk245 h)
noncomputable def fn_Mo_onJudge_245 : Nat → Int32 → Int32 → Int32 → wd_S → Option wd_S
  | 0, _, _, _, _ => none
  | n + 1, l1, l3, l4, S =>
    (if l4 < (((48 : Int32) * (S.1 135 25)) + (S.1 135 26)) then
      (if l4 < 0 ∨ 96 ≤ l4.toNatClampNeg then none else
      (if l1 < 0 ∨ 15010 ≤ l1.toNatClampNeg then none else
      (if (lg_cmp (S.2.1 137 l4.toNatClampNeg) (S.2.1 148 l1.toNatClampNeg)) = 0 then
        fn_Mo_onJudge_285 (fn_Mo_onJudge_245 n) l1 l4 l4 S
      else
        fn_Mo_onJudge_285 (fn_Mo_onJudge_245 n) l1 l4 l3 S)))
    else
      (if l3 = (-1 : Int32) then
        fn_Mo_onJudge_312 l1 l3 S
      else
        (if l3 < 0 ∨ 96 ≤ l3.toNatClampNeg then none else
        (if l1 < 0 ∨ 15010 ≤ l1.toNatClampNeg then none else
        (if (S.1 138 l3.toNatClampNeg) = (S.1 145 l1.toNatClampNeg) then
          fn_Mo_onJudge_332 l1 l3 S
        else
          fn_Mo_onJudge_312 l1 l3 S)))))
set_option maxRecDepth 100000 in
theorem sn_Mo_onJudge_245 {L : Nat} {xs : Nat → Int32} : ∀ (n : Nat) {l1 : Int32} {l3 : Int32} {l4 : Int32} {S : wd_S} {S' : wd_S}, fn_Mo_onJudge_245 n l1 l3 l4 S = some S' → go_r tb_P L xs 1 173 245 [(0, .ref 135), (1, .int l1), (3, .int l3), (4, .int l4)] [] (wd_k S) (.inl none, wd_k S') := by
  intro n
  induction n with
  | zero => intro l1 l3 l4 S S'  h; cases h
  | succ n ih =>
    intro l1 l3 l4 S S'  h
    rw [fn_Mo_onJudge_245] at h
    refine bk_b (q := (250, [(0, .ref 135), (1, .int l1), (3, .int l3), (4, .int l4)], [.ref 135, .int (48 : Int32), .int l4])) tb_c_173_3 mx_173 3 rfl ?_
    refine bk_gi tb_c_173_3 rfl rfl (ci := 11) (k := 25) rfl rfl rfl ?_
    refine bk_b (q := (255, [(0, .ref 135), (1, .int l1), (3, .int l3), (4, .int l4)], [.ref 135, .int ((48 : Int32) * (S.1 135 25)), .int l4])) tb_c_173_3 mx_173 2 rfl ?_
    refine bk_gi tb_c_173_3 rfl rfl (ci := 11) (k := 26) rfl rfl rfl ?_
    refine bk_b (q := (259, [(0, .ref 135), (1, .int l1), (3, .int l3), (4, .int l4)], [.int (((48 : Int32) * (S.1 135 25)) + (S.1 135 26)), .int l4])) tb_c_173_3 mx_173 1 rfl ?_
    by_cases g57 : l4 < (((48 : Int32) * (S.1 135 25)) + (S.1 135 26))
    · rw [if_pos g57] at h
      refine bk_jf tb_c_173_3 rfl (pc' := 262) rfl (t := 292) rfl (cm_ge_f g57) ?_
      refine bk_b (q := (263, [(0, .ref 135), (1, .int l1), (3, .int l3), (4, .int l4)], [.ref 135])) tb_c_173_3 mx_173 1 rfl ?_
      refine bk_gc tb_c_173_3 rfl rfl (ci := 11) (k := 11) rfl rfl rfl ?_
      refine bk_b (q := (268, [(0, .ref 135), (1, .int l1), (3, .int l3), (4, .int l4)], [.int l4, .ref 137])) tb_c_173_3 mx_173 1 rfl ?_
      by_cases g76 : l4 < 0 ∨ 96 ≤ l4.toNatClampNeg
      · rw [if_pos g76] at h; cases h
      · rw [if_neg g76] at h
        refine bk_a8 tb_c_173_3 rfl rfl rfl g76 ?_
        refine bk_b (q := (270, [(0, .ref 135), (1, .int l1), (3, .int l3), (4, .int l4)], [.ref 135, .long (S.2.1 137 l4.toNatClampNeg)])) tb_c_173_3 mx_173 1 rfl ?_
        refine bk_gc tb_c_173_3 rfl rfl (ci := 11) (k := 22) rfl rfl rfl ?_
        refine bk_b (q := (274, [(0, .ref 135), (1, .int l1), (3, .int l3), (4, .int l4)], [.int l1, .ref 148, .long (S.2.1 137 l4.toNatClampNeg)])) tb_c_173_3 mx_173 1 rfl ?_
        by_cases g77 : l1 < 0 ∨ 15010 ≤ l1.toNatClampNeg
        · rw [if_pos g77] at h; cases h
        · rw [if_neg g77] at h
          refine bk_a8 tb_c_173_3 rfl rfl rfl g77 ?_
          refine bk_b (q := (276, [(0, .ref 135), (1, .int l1), (3, .int l3), (4, .int l4)], [.int (lg_cmp (S.2.1 137 l4.toNatClampNeg) (S.2.1 148 l1.toNatClampNeg))])) tb_c_173_3 mx_173 1 rfl ?_
          by_cases g78 : (lg_cmp (S.2.1 137 l4.toNatClampNeg) (S.2.1 148 l1.toNatClampNeg)) = 0
          · rw [if_pos g78] at h
            refine bk_zf tb_c_173_3 rfl (pc' := 279) rfl (t := 284) rfl (cm_ne_f g78) ?_
            refine bk_b (q := (285, [(0, .ref 135), (1, .int l1), (3, .int l3), (4, .int l4)], [.int l4])) tb_c_173_3 mx_173 2 rfl ?_
            exact go_lv (ls_sc rfl rfl (ls_sc rfl rfl (ls_sc rfl rfl ls_nil))) (sn_Mo_onJudge_285 ih h)
          · rw [if_neg g78] at h
            refine bk_zt tb_c_173_3 rfl (pc' := 284) rfl (cm_ne_t g78) ?_
            refine bk_b (q := (285, [(0, .ref 135), (1, .int l1), (3, .int l3), (4, .int l4)], [.int l3])) tb_c_173_3 mx_173 1 rfl ?_
            exact go_lv (ls_sc rfl rfl (ls_sc rfl rfl (ls_sc rfl rfl ls_nil))) (sn_Mo_onJudge_285 ih h)
    · rw [if_neg g57] at h
      refine bk_jt tb_c_173_3 rfl (pc' := 292) rfl (cm_ge_t g57) ?_
      refine bk_b (q := (294, [(0, .ref 135), (1, .int l1), (3, .int l3), (4, .int l4)], [.int (-1 : Int32), .int l3])) tb_c_173_3 mx_173 2 rfl ?_
      by_cases g58 : l3 = (-1 : Int32)
      · rw [if_pos g58] at h
        refine bk_jt tb_c_173_3 rfl (pc' := 312) rfl (cm_eq_t g58) ?_
        exact go_lv (ls_sc rfl rfl (ls_sc rfl rfl (ls_sc rfl rfl ls_nil))) (sn_Mo_onJudge_312 h)
      · rw [if_neg g58] at h
        refine bk_jf tb_c_173_3 rfl (pc' := 297) rfl (t := 312) rfl (cm_eq_f g58) ?_
        refine bk_b (q := (298, [(0, .ref 135), (1, .int l1), (3, .int l3), (4, .int l4)], [.ref 135])) tb_c_173_3 mx_173 1 rfl ?_
        refine bk_gc tb_c_173_3 rfl rfl (ci := 11) (k := 12) rfl rfl rfl ?_
        refine bk_b (q := (302, [(0, .ref 135), (1, .int l1), (3, .int l3), (4, .int l4)], [.int l3, .ref 138])) tb_c_173_3 mx_173 1 rfl ?_
        by_cases g73 : l3 < 0 ∨ 96 ≤ l3.toNatClampNeg
        · rw [if_pos g73] at h; cases h
        · rw [if_neg g73] at h
          refine bk_a4 tb_c_173_3 rfl rfl rfl g73 ?_
          refine bk_b (q := (304, [(0, .ref 135), (1, .int l1), (3, .int l3), (4, .int l4)], [.ref 135, .int (S.1 138 l3.toNatClampNeg)])) tb_c_173_3 mx_173 1 rfl ?_
          refine bk_gc tb_c_173_3 rfl rfl (ci := 11) (k := 19) rfl rfl rfl ?_
          refine bk_b (q := (308, [(0, .ref 135), (1, .int l1), (3, .int l3), (4, .int l4)], [.int l1, .ref 145, .int (S.1 138 l3.toNatClampNeg)])) tb_c_173_3 mx_173 1 rfl ?_
          by_cases g74 : l1 < 0 ∨ 15010 ≤ l1.toNatClampNeg
          · rw [if_pos g74] at h; cases h
          · rw [if_neg g74] at h
            refine bk_a4 tb_c_173_3 rfl rfl rfl g74 ?_
            by_cases g75 : (S.1 138 l3.toNatClampNeg) = (S.1 145 l1.toNatClampNeg)
            · rw [if_pos g75] at h
              refine bk_jt tb_c_173_3 rfl (pc' := 332) rfl (cm_eq_t g75) ?_
              exact go_lv (ls_sc rfl rfl (ls_sc rfl rfl (ls_sc rfl rfl ls_nil))) (sn_Mo_onJudge_332 h)
            · rw [if_neg g75] at h
              refine bk_jf tb_c_173_3 rfl (pc' := 312) rfl (t := 332) rfl (cm_eq_f g75) ?_
              exact go_lv (ls_sc rfl rfl (ls_sc rfl rfl (ls_sc rfl rfl ls_nil))) (sn_Mo_onJudge_312 h)
/-- SpecialiserModel.onJudge(I)V -/
noncomputable def fn_Mo_onJudge (p1 : Int32) (S : wd_S) : Option wd_S :=
  (if p1 < 0 ∨ 15010 ≤ p1.toNatClampNeg then none else
  (if (S.1 143 p1.toNatClampNeg) = (1 : Int32) then
    (if p1 < 0 ∨ 15010 ≤ p1.toNatClampNeg then none else
    (wd_d (fn_Mo_push (1 : Int32) (S.1 145 p1.toNatClampNeg) S) fun S4 =>
    (if p1 < 0 ∨ 15010 ≤ p1.toNatClampNeg then none else
    (wd_d (fn_Mo_push (1 : Int32) (S4.1 144 p1.toNatClampNeg) S4) fun S8 =>
    fn_Mo_onJudge_382  S8))))
  else
  (if (S.1 143 p1.toNatClampNeg) = (2 : Int32) then
    (if p1 < 0 ∨ 15010 ≤ p1.toNatClampNeg then none else
    (wd_d (fn_Mo_push (1 : Int32) (S.1 146 p1.toNatClampNeg) S) fun S13 =>
    (if p1 < 0 ∨ 15010 ≤ p1.toNatClampNeg then none else
    (wd_d (fn_Mo_push (1 : Int32) (S13.1 145 p1.toNatClampNeg) S13) fun S17 =>
    (if p1 < 0 ∨ 15010 ≤ p1.toNatClampNeg then none else
    (wd_d (fn_Mo_push (1 : Int32) (S17.1 144 p1.toNatClampNeg) S17) fun S21 =>
    fn_Mo_onJudge_382  S21))))))
  else
  (if (S.1 143 p1.toNatClampNeg) = (3 : Int32) then
    (wd_d (fn_Mo_push (4 : Int32) p1 S) fun S25 =>
    (if p1 < 0 ∨ 15010 ≤ p1.toNatClampNeg then none else
    (wd_d (fn_Mo_push (1 : Int32) (S25.1 145 p1.toNatClampNeg) S25) fun S29 =>
    (wd_d (fn_Mo_push (3 : Int32) p1 S29) fun S32 =>
    (if p1 < 0 ∨ 15010 ≤ p1.toNatClampNeg then none else
    (wd_d (fn_Mo_push (1 : Int32) (S32.1 144 p1.toNatClampNeg) S32) fun S36 =>
    fn_Mo_onJudge_382  S36))))))
  else
  (if (S.1 143 p1.toNatClampNeg) = (4 : Int32) then
    fn_Mo_onJudge_382  S
  else
  (if (S.1 143 p1.toNatClampNeg) = (5 : Int32) then
    fn_Mo_onJudge_382  S
  else
  (if (S.1 143 p1.toNatClampNeg) = (6 : Int32) then
    fn_Mo_onJudge_382  S
  else
  (if (S.1 143 p1.toNatClampNeg) = (7 : Int32) then
    fn_Mo_onJudge_56 wd_F p1 (-1 : Int32) (0 : Int32) S
  else
  (if (S.1 143 p1.toNatClampNeg) = (8 : Int32) then
    fn_Mo_onJudge_245 wd_F p1 (-1 : Int32) ((48 : Int32) * (S.1 135 25)) S
  else
  fn_Mo_onJudge_382  S)))))))))
set_option maxRecDepth 100000 in
theorem sn_Mo_onJudge {L : Nat} {xs : Nat → Int32} {p1 : Int32} {S : wd_S} {S' : wd_S} (h : fn_Mo_onJudge p1 S = some S') : ev_r tb_P L xs (1 + 1) 173 [.ref 135, .int p1] (wd_k S) (.inl none, wd_k S') := by
  unfold fn_Mo_onJudge at h
  refine ev_of (Nat.le_of_ble_eq_true rfl) ?_
  show go_r tb_P L xs 1 173 0 [(0, .ref 135), (1, .int p1)] [] (wd_k S) (.inl none, wd_k S')
  refine bk_b (q := (1, [(0, .ref 135), (1, .int p1)], [.ref 135])) tb_c_173_0 mx_173 1 rfl ?_
  refine bk_gc tb_c_173_0 rfl rfl (ci := 11) (k := 17) rfl rfl rfl ?_
  refine bk_b (q := (5, [(0, .ref 135), (1, .int p1)], [.int p1, .ref 143])) tb_c_173_0 mx_173 1 rfl ?_
  by_cases g1 : p1 < 0 ∨ 15010 ≤ p1.toNatClampNeg
  · rw [if_pos g1] at h; cases h
  · rw [if_neg g1] at h
    refine bk_a4 tb_c_173_0 rfl rfl rfl g1 ?_
    by_cases g2 : (S.1 143 p1.toNatClampNeg) = (1 : Int32)
    · rw [if_pos g2] at h
      refine bk_sw tb_c_173_0 rfl (pc' := 136) (by rw [g2]; rfl) ?_
      refine bk_b (q := (139, [(0, .ref 135), (1, .int p1)], [.ref 135, .int (1 : Int32), .ref 135])) tb_c_173_1 mx_173 3 rfl ?_
      refine bk_gc tb_c_173_1 rfl rfl (ci := 11) (k := 19) rfl rfl rfl ?_
      refine bk_b (q := (143, [(0, .ref 135), (1, .int p1)], [.int p1, .ref 145, .int (1 : Int32), .ref 135])) tb_c_173_1 mx_173 1 rfl ?_
      by_cases g3 : p1 < 0 ∨ 15010 ≤ p1.toNatClampNeg
      · rw [if_pos g3] at h; cases h
      · rw [if_neg g3] at h
        refine bk_a4 tb_c_173_1 rfl rfl rfl g3 ?_
        obtain ⟨S4, c6, h⟩ := wd_dx h
        refine bk_kv tb_c_173_1 rfl rfl rfl rfl rfl (ci := 11) rfl rfl (ev_up (Nat.le_of_ble_eq_true rfl) (sn_Mo_push c6)) ?_
        refine bk_b (q := (150, [(0, .ref 135), (1, .int p1)], [.ref 135, .int (1 : Int32), .ref 135])) tb_c_173_1 mx_173 3 rfl ?_
        refine bk_gc tb_c_173_1 rfl rfl (ci := 11) (k := 18) rfl rfl rfl ?_
        refine bk_b (q := (154, [(0, .ref 135), (1, .int p1)], [.int p1, .ref 144, .int (1 : Int32), .ref 135])) tb_c_173_1 mx_173 1 rfl ?_
        by_cases g7 : p1 < 0 ∨ 15010 ≤ p1.toNatClampNeg
        · rw [if_pos g7] at h; cases h
        · rw [if_neg g7] at h
          refine bk_a4 tb_c_173_1 rfl rfl rfl g7 ?_
          obtain ⟨S8, c10, h⟩ := wd_dx h
          refine bk_kv tb_c_173_1 rfl rfl rfl rfl rfl (ci := 11) rfl rfl (ev_up (Nat.le_of_ble_eq_true rfl) (sn_Mo_push c10)) ?_
          refine bk_b (q := (382, [(0, .ref 135), (1, .int p1)], [])) tb_c_173_1 mx_173 1 rfl ?_
          exact go_lv ls_nil (sn_Mo_onJudge_382 h)
    · rw [if_neg g2] at h
      by_cases g11 : (S.1 143 p1.toNatClampNeg) = (2 : Int32)
      · rw [if_pos g11] at h
        refine bk_sw tb_c_173_0 rfl (pc' := 161) (by rw [g11]; rfl) ?_
        refine bk_b (q := (164, [(0, .ref 135), (1, .int p1)], [.ref 135, .int (1 : Int32), .ref 135])) tb_c_173_1 mx_173 3 rfl ?_
        refine bk_gc tb_c_173_1 rfl rfl (ci := 11) (k := 20) rfl rfl rfl ?_
        refine bk_b (q := (168, [(0, .ref 135), (1, .int p1)], [.int p1, .ref 146, .int (1 : Int32), .ref 135])) tb_c_173_1 mx_173 1 rfl ?_
        by_cases g12 : p1 < 0 ∨ 15010 ≤ p1.toNatClampNeg
        · rw [if_pos g12] at h; cases h
        · rw [if_neg g12] at h
          refine bk_a4 tb_c_173_1 rfl rfl rfl g12 ?_
          obtain ⟨S13, c15, h⟩ := wd_dx h
          refine bk_kv tb_c_173_1 rfl rfl rfl rfl rfl (ci := 11) rfl rfl (ev_up (Nat.le_of_ble_eq_true rfl) (sn_Mo_push c15)) ?_
          refine bk_b (q := (174, [(0, .ref 135), (1, .int p1)], [.int (1 : Int32), .ref 135])) tb_c_173_1 mx_173 2 rfl ?_
          refine bk_b (q := (175, [(0, .ref 135), (1, .int p1)], [.ref 135, .int (1 : Int32), .ref 135])) tb_c_173_2 mx_173 1 rfl ?_
          refine bk_gc tb_c_173_2 rfl rfl (ci := 11) (k := 19) rfl rfl rfl ?_
          refine bk_b (q := (179, [(0, .ref 135), (1, .int p1)], [.int p1, .ref 145, .int (1 : Int32), .ref 135])) tb_c_173_2 mx_173 1 rfl ?_
          by_cases g16 : p1 < 0 ∨ 15010 ≤ p1.toNatClampNeg
          · rw [if_pos g16] at h; cases h
          · rw [if_neg g16] at h
            refine bk_a4 tb_c_173_2 rfl rfl rfl g16 ?_
            obtain ⟨S17, c19, h⟩ := wd_dx h
            refine bk_kv tb_c_173_2 rfl rfl rfl rfl rfl (ci := 11) rfl rfl (ev_up (Nat.le_of_ble_eq_true rfl) (sn_Mo_push c19)) ?_
            refine bk_b (q := (186, [(0, .ref 135), (1, .int p1)], [.ref 135, .int (1 : Int32), .ref 135])) tb_c_173_2 mx_173 3 rfl ?_
            refine bk_gc tb_c_173_2 rfl rfl (ci := 11) (k := 18) rfl rfl rfl ?_
            refine bk_b (q := (190, [(0, .ref 135), (1, .int p1)], [.int p1, .ref 144, .int (1 : Int32), .ref 135])) tb_c_173_2 mx_173 1 rfl ?_
            by_cases g20 : p1 < 0 ∨ 15010 ≤ p1.toNatClampNeg
            · rw [if_pos g20] at h; cases h
            · rw [if_neg g20] at h
              refine bk_a4 tb_c_173_2 rfl rfl rfl g20 ?_
              obtain ⟨S21, c23, h⟩ := wd_dx h
              refine bk_kv tb_c_173_2 rfl rfl rfl rfl rfl (ci := 11) rfl rfl (ev_up (Nat.le_of_ble_eq_true rfl) (sn_Mo_push c23)) ?_
              refine bk_b (q := (382, [(0, .ref 135), (1, .int p1)], [])) tb_c_173_2 mx_173 1 rfl ?_
              exact go_lv ls_nil (sn_Mo_onJudge_382 h)
      · rw [if_neg g11] at h
        by_cases g24 : (S.1 143 p1.toNatClampNeg) = (3 : Int32)
        · rw [if_pos g24] at h
          refine bk_sw tb_c_173_0 rfl (pc' := 197) (by rw [g24]; rfl) ?_
          refine bk_b (q := (200, [(0, .ref 135), (1, .int p1)], [.int p1, .int (4 : Int32), .ref 135])) tb_c_173_2 mx_173 3 rfl ?_
          obtain ⟨S25, c27, h⟩ := wd_dx h
          refine bk_kv tb_c_173_2 rfl rfl rfl rfl rfl (ci := 11) rfl rfl (ev_up (Nat.le_of_ble_eq_true rfl) (sn_Mo_push c27)) ?_
          refine bk_b (q := (206, [(0, .ref 135), (1, .int p1)], [.ref 135, .int (1 : Int32), .ref 135])) tb_c_173_2 mx_173 3 rfl ?_
          refine bk_gc tb_c_173_2 rfl rfl (ci := 11) (k := 19) rfl rfl rfl ?_
          refine bk_b (q := (210, [(0, .ref 135), (1, .int p1)], [.int p1, .ref 145, .int (1 : Int32), .ref 135])) tb_c_173_2 mx_173 1 rfl ?_
          by_cases g28 : p1 < 0 ∨ 15010 ≤ p1.toNatClampNeg
          · rw [if_pos g28] at h; cases h
          · rw [if_neg g28] at h
            refine bk_a4 tb_c_173_2 rfl rfl rfl g28 ?_
            obtain ⟨S29, c31, h⟩ := wd_dx h
            refine bk_kv tb_c_173_2 rfl rfl rfl rfl rfl (ci := 11) rfl rfl (ev_up (Nat.le_of_ble_eq_true rfl) (sn_Mo_push c31)) ?_
            refine bk_b (q := (217, [(0, .ref 135), (1, .int p1)], [.int p1, .int (3 : Int32), .ref 135])) tb_c_173_2 mx_173 3 rfl ?_
            obtain ⟨S32, c34, h⟩ := wd_dx h
            refine bk_kv tb_c_173_2 rfl rfl rfl rfl rfl (ci := 11) rfl rfl (ev_up (Nat.le_of_ble_eq_true rfl) (sn_Mo_push c34)) ?_
            refine bk_b (q := (223, [(0, .ref 135), (1, .int p1)], [.ref 135, .int (1 : Int32), .ref 135])) tb_c_173_2 mx_173 3 rfl ?_
            refine bk_gc tb_c_173_2 rfl rfl (ci := 11) (k := 18) rfl rfl rfl ?_
            refine bk_b (q := (227, [(0, .ref 135), (1, .int p1)], [.int p1, .ref 144, .int (1 : Int32), .ref 135])) tb_c_173_2 mx_173 1 rfl ?_
            by_cases g35 : p1 < 0 ∨ 15010 ≤ p1.toNatClampNeg
            · rw [if_pos g35] at h; cases h
            · rw [if_neg g35] at h
              refine bk_a4 tb_c_173_2 rfl rfl rfl g35 ?_
              obtain ⟨S36, c38, h⟩ := wd_dx h
              refine bk_kv tb_c_173_2 rfl rfl rfl rfl rfl (ci := 11) rfl rfl (ev_up (Nat.le_of_ble_eq_true rfl) (sn_Mo_push c38)) ?_
              refine bk_b (q := (382, [(0, .ref 135), (1, .int p1)], [])) tb_c_173_2 mx_173 1 rfl ?_
              exact go_lv ls_nil (sn_Mo_onJudge_382 h)
        · rw [if_neg g24] at h
          by_cases g39 : (S.1 143 p1.toNatClampNeg) = (4 : Int32)
          · rw [if_pos g39] at h
            refine bk_sw tb_c_173_0 rfl (pc' := 382) (by rw [g39]; rfl) ?_
            exact go_lv ls_nil (sn_Mo_onJudge_382 h)
          · rw [if_neg g39] at h
            by_cases g40 : (S.1 143 p1.toNatClampNeg) = (5 : Int32)
            · rw [if_pos g40] at h
              refine bk_sw tb_c_173_0 rfl (pc' := 382) (by rw [g40]; rfl) ?_
              exact go_lv ls_nil (sn_Mo_onJudge_382 h)
            · rw [if_neg g40] at h
              by_cases g41 : (S.1 143 p1.toNatClampNeg) = (6 : Int32)
              · rw [if_pos g41] at h
                refine bk_sw tb_c_173_0 rfl (pc' := 382) (by rw [g41]; rfl) ?_
                exact go_lv ls_nil (sn_Mo_onJudge_382 h)
              · rw [if_neg g41] at h
                by_cases g42 : (S.1 143 p1.toNatClampNeg) = (7 : Int32)
                · rw [if_pos g42] at h
                  refine bk_sw tb_c_173_0 rfl (pc' := 52) (by rw [g42]; rfl) ?_
                  refine bk_b (q := (56, [(3, .int (0 : Int32)), (2, .int (-1 : Int32)), (0, .ref 135), (1, .int p1)], [])) tb_c_173_0 mx_173 4 rfl ?_
                  exact go_lv (ls_sc rfl rfl (ls_sc rfl rfl (ls_sc rfl rfl (ls_sc rfl rfl ls_nil)))) (sn_Mo_onJudge_56 wd_F h)
                · rw [if_neg g42] at h
                  by_cases g56 : (S.1 143 p1.toNatClampNeg) = (8 : Int32)
                  · rw [if_pos g56] at h
                    refine bk_sw tb_c_173_0 rfl (pc' := 234) (by rw [g56]; rfl) ?_
                    refine bk_b (q := (239, [(3, .int (-1 : Int32)), (0, .ref 135), (1, .int p1)], [.ref 135, .int (48 : Int32)])) tb_c_173_2 mx_173 4 rfl ?_
                    refine bk_gi tb_c_173_3 rfl rfl (ci := 11) (k := 25) rfl rfl rfl ?_
                    refine bk_b (q := (245, [(4, .int ((48 : Int32) * (S.1 135 25))), (3, .int (-1 : Int32)), (0, .ref 135), (1, .int p1)], [])) tb_c_173_3 mx_173 2 rfl ?_
                    exact go_lv (ls_sc rfl rfl (ls_sc rfl rfl (ls_sc rfl rfl (ls_sc rfl rfl ls_nil)))) (sn_Mo_onJudge_245 wd_F h)
                  · rw [if_neg g56] at h
                    refine bk_sw tb_c_173_0 rfl (pc' := 382) (sw_t (t := 382) (fun i h1 h2 => ?_) rfl) ?_
                    · have hi : i = 1 ∨ i = 2 ∨ i = 3 ∨ i = 4 ∨ i = 5 ∨ i = 6 ∨ i = 7 ∨ i = 8 := by omega
                      rcases hi with rfl | rfl | rfl | rfl | rfl | rfl | rfl | rfl
                      · exact g2
                      · exact g11
                      · exact g24
                      · exact g39
                      · exact g40
                      · exact g41
                      · exact g42
                      · exact g56
                    · exact go_lv ls_nil (sn_Mo_onJudge_382 h)
theorem mx_172 : mi_mx tb_P 172 = 2 := rfl
noncomputable def fn_Mo_judge_171 (S : wd_S) : Option wd_S :=
  some S
set_option maxRecDepth 100000 in
theorem sn_Mo_judge_171 {L : Nat} {xs : Nat → Int32} {S : wd_S} {S' : wd_S} (h : fn_Mo_judge_171  S = some S') : go_r tb_P L xs 2 172 171 [] [] (wd_k S) (.inl none, wd_k S') := by
  unfold fn_Mo_judge_171 at h
  cases h
  exact bk_t tb_c_172_2 rfl rfl
noncomputable def fn_Mo_judge_168 (kk62 : wd_S → Option wd_S) (S : wd_S) : Option wd_S :=
  kk62  S
set_option maxRecDepth 100000 in
theorem sn_Mo_judge_168 {L : Nat} {xs : Nat → Int32} {kk62 : wd_S → Option wd_S} (hk62 : ∀ {S : wd_S} {S' : wd_S}, kk62  S = some S' → go_r tb_P L xs 2 172 62 [(0, .ref 135)] [] (wd_k S) (.inl none, wd_k S')) {S : wd_S} {S' : wd_S} (h : fn_Mo_judge_168 kk62  S = some S') : go_r tb_P L xs 2 172 168 [(0, .ref 135)] [] (wd_k S) (.inl none, wd_k S') := by
  unfold fn_Mo_judge_168 at h
  refine bk_b (q := (62, [(0, .ref 135)], [])) tb_c_172_2 mx_172 1 rfl ?_
  exact go_lv (ls_sc rfl rfl ls_nil) (hk62 h)
noncomputable def fn_Mo_judge_62 : Nat → wd_S → Option wd_S
  | 0, _ => none
  | n + 1, S =>
    (if 0 < (S.1 135 35) then
      (if (S.1 135 9) = 0 then
        (wd_b (wd_i S 135 35 ((S.1 135 35) - (1 : Int32))) fun S11 =>
        (if (S11.1 135 35) < 0 ∨ 4000 ≤ (S11.1 135 35).toNatClampNeg then none else
        (if (S11.1 135 35) < 0 ∨ 4000 ≤ (S11.1 135 35).toNatClampNeg then none else
        (if (S11.1 152 (S11.1 135 35).toNatClampNeg) = (1 : Int32) then
          (wd_d (fn_Mo_onJudge (S11.1 153 (S11.1 135 35).toNatClampNeg) S11) fun S22 =>
          fn_Mo_judge_168 (fn_Mo_judge_62 n)  S22)
        else
          (if (S11.1 135 35) < 0 ∨ 4000 ≤ (S11.1 135 35).toNatClampNeg then none else
          (if (S11.1 152 (S11.1 135 35).toNatClampNeg) = (3 : Int32) then
            (if (S11.1 153 (S11.1 135 35).toNatClampNeg) < 0 ∨ 15010 ≤ (S11.1 153 (S11.1 135 35).toNatClampNeg).toNatClampNeg then none else
            (if (S11.1 135 40) < 0 ∨ 16 ≤ (S11.1 135 40).toNatClampNeg then none else
            (wd_b (wd_i S11 156 (S11.1 135 40).toNatClampNeg (S11.1 146 (S11.1 153 (S11.1 135 35).toNatClampNeg).toNatClampNeg)) fun S20 =>
            (wd_b (wd_i S20 135 40 ((S20.1 135 40) + (1 : Int32))) fun S21 =>
            fn_Mo_judge_168 (fn_Mo_judge_62 n)  S21))))
          else
            (wd_b (wd_i S11 135 40 ((S11.1 135 40) - (1 : Int32))) fun S17 =>
            fn_Mo_judge_168 (fn_Mo_judge_62 n)  S17)))))))
      else
        fn_Mo_judge_171  S)
    else
      fn_Mo_judge_171  S)
set_option maxRecDepth 100000 in
theorem sn_Mo_judge_62 {L : Nat} {xs : Nat → Int32} : ∀ (n : Nat) {S : wd_S} {S' : wd_S}, fn_Mo_judge_62 n  S = some S' → go_r tb_P L xs 2 172 62 [(0, .ref 135)] [] (wd_k S) (.inl none, wd_k S') := by
  intro n
  induction n with
  | zero => intro  S S'  h; cases h
  | succ n ih =>
    intro  S S'  h
    rw [fn_Mo_judge_62] at h
    refine bk_b (q := (63, [(0, .ref 135)], [.ref 135])) tb_c_172_0 mx_172 1 rfl ?_
    refine bk_gi tb_c_172_0 rfl rfl (ci := 11) (k := 35) rfl rfl rfl ?_
    by_cases g9 : 0 < (S.1 135 35)
    · rw [if_pos g9] at h
      refine bk_zf tb_c_172_0 rfl (pc' := 69) rfl (t := 171) rfl (cm_le_f g9) ?_
      refine bk_b (q := (70, [(0, .ref 135)], [.ref 135])) tb_c_172_0 mx_172 1 rfl ?_
      refine bk_gi tb_c_172_1 rfl rfl (ci := 11) (k := 9) rfl rfl rfl ?_
      by_cases g10 : (S.1 135 9) = 0
      · rw [if_pos g10] at h
        refine bk_zf tb_c_172_1 rfl (pc' := 76) rfl (t := 171) rfl (cm_ne_f g10) ?_
        refine bk_b (q := (78, [(0, .ref 135)], [.ref 135, .ref 135])) tb_c_172_1 mx_172 2 rfl ?_
        refine bk_gi tb_c_172_1 rfl rfl (ci := 11) (k := 35) rfl rfl rfl ?_
        refine bk_b (q := (83, [(0, .ref 135)], [.int ((S.1 135 35) - (1 : Int32)), .ref 135])) tb_c_172_1 mx_172 2 rfl ?_
        obtain ⟨S11, eS11, h⟩ := wd_bx h
        refine bk_pi tb_c_172_1 rfl rfl (ci := 11) (k := 35) rfl rfl rfl rfl ?_
        rw [eS11]
        refine bk_b (q := (87, [(0, .ref 135)], [.ref 135])) tb_c_172_1 mx_172 1 rfl ?_
        refine bk_gc tb_c_172_1 rfl rfl (ci := 11) (k := 33) rfl rfl rfl ?_
        refine bk_b (q := (91, [(0, .ref 135)], [.ref 135, .ref 153])) tb_c_172_1 mx_172 1 rfl ?_
        refine bk_gi tb_c_172_1 rfl rfl (ci := 11) (k := 35) rfl rfl rfl ?_
        by_cases g12 : (S11.1 135 35) < 0 ∨ 4000 ≤ (S11.1 135 35).toNatClampNeg
        · rw [if_pos g12] at h; cases h
        · rw [if_neg g12] at h
          refine bk_a4 tb_c_172_1 rfl rfl rfl g12 ?_
          refine bk_b (q := (97, [(1, .int (S11.1 153 (S11.1 135 35).toNatClampNeg)), (0, .ref 135)], [.ref 135])) tb_c_172_1 mx_172 2 rfl ?_
          refine bk_gc tb_c_172_1 rfl rfl (ci := 11) (k := 32) rfl rfl rfl ?_
          refine bk_b (q := (101, [(1, .int (S11.1 153 (S11.1 135 35).toNatClampNeg)), (0, .ref 135)], [.ref 135, .ref 152])) tb_c_172_1 mx_172 1 rfl ?_
          refine bk_gi tb_c_172_1 rfl rfl (ci := 11) (k := 35) rfl rfl rfl ?_
          by_cases g13 : (S11.1 135 35) < 0 ∨ 4000 ≤ (S11.1 135 35).toNatClampNeg
          · rw [if_pos g13] at h; cases h
          · rw [if_neg g13] at h
            refine bk_a4 tb_c_172_1 rfl rfl rfl g13 ?_
            refine bk_b (q := (106, [(1, .int (S11.1 153 (S11.1 135 35).toNatClampNeg)), (0, .ref 135)], [.int (1 : Int32), .int (S11.1 152 (S11.1 135 35).toNatClampNeg)])) tb_c_172_1 mx_172 1 rfl ?_
            by_cases g14 : (S11.1 152 (S11.1 135 35).toNatClampNeg) = (1 : Int32)
            · rw [if_pos g14] at h
              refine bk_jf tb_c_172_1 rfl (pc' := 109) rfl (t := 117) rfl (cm_ne_f g14) ?_
              refine bk_b (q := (111, [(1, .int (S11.1 153 (S11.1 135 35).toNatClampNeg)), (0, .ref 135)], [.int (S11.1 153 (S11.1 135 35).toNatClampNeg), .ref 135])) tb_c_172_1 mx_172 2 rfl ?_
              obtain ⟨S22, c24, h⟩ := wd_dx h
              refine bk_kv tb_c_172_1 rfl rfl rfl rfl rfl (ci := 11) rfl rfl (ev_up (Nat.le_of_ble_eq_true rfl) (sn_Mo_onJudge c24)) ?_
              refine bk_b (q := (168, [(1, .int (S11.1 153 (S11.1 135 35).toNatClampNeg)), (0, .ref 135)], [])) tb_c_172_1 mx_172 1 rfl ?_
              exact go_lv (ls_sc rfl rfl ls_nil) (sn_Mo_judge_168 ih h)
            · rw [if_neg g14] at h
              refine bk_jt tb_c_172_1 rfl (pc' := 117) rfl (cm_ne_t g14) ?_
              refine bk_b (q := (118, [(1, .int (S11.1 153 (S11.1 135 35).toNatClampNeg)), (0, .ref 135)], [.ref 135])) tb_c_172_1 mx_172 1 rfl ?_
              refine bk_gc tb_c_172_1 rfl rfl (ci := 11) (k := 32) rfl rfl rfl ?_
              refine bk_b (q := (122, [(1, .int (S11.1 153 (S11.1 135 35).toNatClampNeg)), (0, .ref 135)], [.ref 135, .ref 152])) tb_c_172_1 mx_172 1 rfl ?_
              refine bk_gi tb_c_172_1 rfl rfl (ci := 11) (k := 35) rfl rfl rfl ?_
              by_cases g15 : (S11.1 135 35) < 0 ∨ 4000 ≤ (S11.1 135 35).toNatClampNeg
              · rw [if_pos g15] at h; cases h
              · rw [if_neg g15] at h
                refine bk_a4 tb_c_172_1 rfl rfl rfl g15 ?_
                refine bk_b (q := (127, [(1, .int (S11.1 153 (S11.1 135 35).toNatClampNeg)), (0, .ref 135)], [.int (3 : Int32), .int (S11.1 152 (S11.1 135 35).toNatClampNeg)])) tb_c_172_1 mx_172 1 rfl ?_
                by_cases g16 : (S11.1 152 (S11.1 135 35).toNatClampNeg) = (3 : Int32)
                · rw [if_pos g16] at h
                  refine bk_jf tb_c_172_1 rfl (pc' := 130) rfl (t := 158) rfl (cm_ne_f g16) ?_
                  refine bk_b (q := (131, [(1, .int (S11.1 153 (S11.1 135 35).toNatClampNeg)), (0, .ref 135)], [.ref 135])) tb_c_172_1 mx_172 1 rfl ?_
                  refine bk_gc tb_c_172_1 rfl rfl (ci := 11) (k := 39) rfl rfl rfl ?_
                  refine bk_b (q := (135, [(1, .int (S11.1 153 (S11.1 135 35).toNatClampNeg)), (0, .ref 135)], [.ref 135, .ref 156])) tb_c_172_1 mx_172 1 rfl ?_
                  refine bk_gi tb_c_172_1 rfl rfl (ci := 11) (k := 40) rfl rfl rfl ?_
                  refine bk_b (q := (139, [(1, .int (S11.1 153 (S11.1 135 35).toNatClampNeg)), (0, .ref 135)], [.ref 135, .int (S11.1 135 40), .ref 156])) tb_c_172_1 mx_172 1 rfl ?_
                  refine bk_gc tb_c_172_1 rfl rfl (ci := 11) (k := 20) rfl rfl rfl ?_
                  refine bk_b (q := (143, [(1, .int (S11.1 153 (S11.1 135 35).toNatClampNeg)), (0, .ref 135)], [.int (S11.1 153 (S11.1 135 35).toNatClampNeg), .ref 146, .int (S11.1 135 40), .ref 156])) tb_c_172_1 mx_172 1 rfl ?_
                  by_cases g18 : (S11.1 153 (S11.1 135 35).toNatClampNeg) < 0 ∨ 15010 ≤ (S11.1 153 (S11.1 135 35).toNatClampNeg).toNatClampNeg
                  · rw [if_pos g18] at h; cases h
                  · rw [if_neg g18] at h
                    refine bk_a4 tb_c_172_1 rfl rfl rfl g18 ?_
                    by_cases g19 : (S11.1 135 40) < 0 ∨ 16 ≤ (S11.1 135 40).toNatClampNeg
                    · rw [if_pos g19] at h; cases h
                    · rw [if_neg g19] at h
                      obtain ⟨S20, eS20, h⟩ := wd_bx h
                      refine bk_s4 tb_c_172_2 rfl rfl rfl g19 ?_
                      rw [eS20]
                      refine bk_b (q := (147, [(1, .int (S11.1 153 (S11.1 135 35).toNatClampNeg)), (0, .ref 135)], [.ref 135, .ref 135])) tb_c_172_2 mx_172 2 rfl ?_
                      refine bk_gi tb_c_172_2 rfl rfl (ci := 11) (k := 40) rfl rfl rfl ?_
                      refine bk_b (q := (152, [(1, .int (S11.1 153 (S11.1 135 35).toNatClampNeg)), (0, .ref 135)], [.int ((S20.1 135 40) + (1 : Int32)), .ref 135])) tb_c_172_2 mx_172 2 rfl ?_
                      obtain ⟨S21, eS21, h⟩ := wd_bx h
                      refine bk_pi tb_c_172_2 rfl rfl (ci := 11) (k := 40) rfl rfl rfl rfl ?_
                      rw [eS21]
                      refine bk_b (q := (168, [(1, .int (S11.1 153 (S11.1 135 35).toNatClampNeg)), (0, .ref 135)], [])) tb_c_172_2 mx_172 1 rfl ?_
                      exact go_lv (ls_sc rfl rfl ls_nil) (sn_Mo_judge_168 ih h)
                · rw [if_neg g16] at h
                  refine bk_jt tb_c_172_1 rfl (pc' := 158) rfl (cm_ne_t g16) ?_
                  refine bk_b (q := (160, [(1, .int (S11.1 153 (S11.1 135 35).toNatClampNeg)), (0, .ref 135)], [.ref 135, .ref 135])) tb_c_172_2 mx_172 2 rfl ?_
                  refine bk_gi tb_c_172_2 rfl rfl (ci := 11) (k := 40) rfl rfl rfl ?_
                  refine bk_b (q := (165, [(1, .int (S11.1 153 (S11.1 135 35).toNatClampNeg)), (0, .ref 135)], [.int ((S11.1 135 40) - (1 : Int32)), .ref 135])) tb_c_172_2 mx_172 2 rfl ?_
                  obtain ⟨S17, eS17, h⟩ := wd_bx h
                  refine bk_pi tb_c_172_2 rfl rfl (ci := 11) (k := 40) rfl rfl rfl rfl ?_
                  rw [eS17]
                  exact go_lv (ls_sc rfl rfl ls_nil) (sn_Mo_judge_168 ih h)
      · rw [if_neg g10] at h
        refine bk_zt tb_c_172_1 rfl (pc' := 171) rfl (cm_ne_t g10) ?_
        exact go_lv ls_nil (sn_Mo_judge_171 h)
    · rw [if_neg g9] at h
      refine bk_zt tb_c_172_0 rfl (pc' := 171) rfl (cm_le_t g9) ?_
      exact go_lv ls_nil (sn_Mo_judge_171 h)
noncomputable def fn_Mo_judge_7 : Nat → Int32 → wd_S → Option wd_S
  | 0, _, _ => none
  | n + 1, l1, S =>
    (if (S.1 135 31) < 0 ∨ 96 ≤ (S.1 135 31).toNatClampNeg then none else
    (if l1 < (S.1 138 (S.1 135 31).toNatClampNeg) then
      (if l1 < 0 ∨ 16 ≤ l1.toNatClampNeg then none else
      (wd_b (wd_i S 156 l1.toNatClampNeg l1) fun S26 =>
      (wd_b (wd_i S26 135 40 ((S26.1 135 40) + (1 : Int32))) fun S27 =>
      fn_Mo_judge_7 n (l1 + (1 : Int32)) S27)))
    else
      (wd_b (wd_i S 135 35 (0 : Int32)) fun S4 =>
      (if (S4.1 135 31) < 0 ∨ 96 ≤ (S4.1 135 31).toNatClampNeg then none else
      (wd_d (fn_Mo_push (1 : Int32) (S4.1 140 (S4.1 135 31).toNatClampNeg) S4) fun S6 =>
      fn_Mo_judge_62 wd_F  S6)))))
set_option maxRecDepth 100000 in
theorem sn_Mo_judge_7 {L : Nat} {xs : Nat → Int32} : ∀ (n : Nat) {l1 : Int32} {S : wd_S} {S' : wd_S}, fn_Mo_judge_7 n l1 S = some S' → go_r tb_P L xs 2 172 7 [(0, .ref 135), (1, .int l1)] [] (wd_k S) (.inl none, wd_k S') := by
  intro n
  induction n with
  | zero => intro l1 S S'  h; cases h
  | succ n ih =>
    intro l1 S S'  h
    rw [fn_Mo_judge_7] at h
    refine bk_b (q := (9, [(0, .ref 135), (1, .int l1)], [.ref 135, .int l1])) tb_c_172_0 mx_172 2 rfl ?_
    refine bk_gc tb_c_172_0 rfl rfl (ci := 11) (k := 12) rfl rfl rfl ?_
    refine bk_b (q := (13, [(0, .ref 135), (1, .int l1)], [.ref 135, .ref 138, .int l1])) tb_c_172_0 mx_172 1 rfl ?_
    refine bk_gi tb_c_172_0 rfl rfl (ci := 11) (k := 31) rfl rfl rfl ?_
    by_cases g2 : (S.1 135 31) < 0 ∨ 96 ≤ (S.1 135 31).toNatClampNeg
    · rw [if_pos g2] at h; cases h
    · rw [if_neg g2] at h
      refine bk_a4 tb_c_172_0 rfl rfl rfl g2 ?_
      by_cases g3 : l1 < (S.1 138 (S.1 135 31).toNatClampNeg)
      · rw [if_pos g3] at h
        refine bk_jf tb_c_172_0 rfl (pc' := 20) rfl (t := 43) rfl (cm_ge_f g3) ?_
        refine bk_b (q := (21, [(0, .ref 135), (1, .int l1)], [.ref 135])) tb_c_172_0 mx_172 1 rfl ?_
        refine bk_gc tb_c_172_0 rfl rfl (ci := 11) (k := 39) rfl rfl rfl ?_
        refine bk_b (q := (26, [(0, .ref 135), (1, .int l1)], [.int l1, .int l1, .ref 156])) tb_c_172_0 mx_172 2 rfl ?_
        by_cases g25 : l1 < 0 ∨ 16 ≤ l1.toNatClampNeg
        · rw [if_pos g25] at h; cases h
        · rw [if_neg g25] at h
          obtain ⟨S26, eS26, h⟩ := wd_bx h
          refine bk_s4 tb_c_172_0 rfl rfl rfl g25 ?_
          rw [eS26]
          refine bk_b (q := (29, [(0, .ref 135), (1, .int l1)], [.ref 135, .ref 135])) tb_c_172_0 mx_172 2 rfl ?_
          refine bk_gi tb_c_172_0 rfl rfl (ci := 11) (k := 40) rfl rfl rfl ?_
          refine bk_b (q := (34, [(0, .ref 135), (1, .int l1)], [.int ((S26.1 135 40) + (1 : Int32)), .ref 135])) tb_c_172_0 mx_172 2 rfl ?_
          obtain ⟨S27, eS27, h⟩ := wd_bx h
          refine bk_pi tb_c_172_0 rfl rfl (ci := 11) (k := 40) rfl rfl rfl rfl ?_
          rw [eS27]
          refine bk_b (q := (7, [(1, .int (l1 + (1 : Int32))), (0, .ref 135)], [])) tb_c_172_0 mx_172 2 rfl ?_
          exact go_lv (ls_sc rfl rfl (ls_sc rfl rfl ls_nil)) (ih h)
      · rw [if_neg g3] at h
        refine bk_jt tb_c_172_0 rfl (pc' := 43) rfl (cm_ge_t g3) ?_
        refine bk_b (q := (45, [(0, .ref 135), (1, .int l1)], [.int (0 : Int32), .ref 135])) tb_c_172_0 mx_172 2 rfl ?_
        obtain ⟨S4, eS4, h⟩ := wd_bx h
        refine bk_pi tb_c_172_0 rfl rfl (ci := 11) (k := 35) rfl rfl rfl rfl ?_
        rw [eS4]
        refine bk_b (q := (51, [(0, .ref 135), (1, .int l1)], [.ref 135, .int (1 : Int32), .ref 135])) tb_c_172_0 mx_172 3 rfl ?_
        refine bk_gc tb_c_172_0 rfl rfl (ci := 11) (k := 14) rfl rfl rfl ?_
        refine bk_b (q := (55, [(0, .ref 135), (1, .int l1)], [.ref 135, .ref 140, .int (1 : Int32), .ref 135])) tb_c_172_0 mx_172 1 rfl ?_
        refine bk_gi tb_c_172_0 rfl rfl (ci := 11) (k := 31) rfl rfl rfl ?_
        by_cases g5 : (S4.1 135 31) < 0 ∨ 96 ≤ (S4.1 135 31).toNatClampNeg
        · rw [if_pos g5] at h; cases h
        · rw [if_neg g5] at h
          refine bk_a4 tb_c_172_0 rfl rfl rfl g5 ?_
          obtain ⟨S6, c8, h⟩ := wd_dx h
          refine bk_kv tb_c_172_0 rfl rfl rfl rfl rfl (ci := 11) rfl rfl (ev_up (Nat.le_of_ble_eq_true rfl) (sn_Mo_push c8)) ?_
          exact go_lv (ls_sc rfl rfl ls_nil) (sn_Mo_judge_62 wd_F h)
/-- SpecialiserModel.judge()V -/
noncomputable def fn_Mo_judge (S : wd_S) : Option wd_S :=
  (wd_b (wd_i S 135 40 (0 : Int32)) fun S1 =>
  fn_Mo_judge_7 wd_F (0 : Int32) S1)
set_option maxRecDepth 100000 in
theorem sn_Mo_judge {L : Nat} {xs : Nat → Int32} {S : wd_S} {S' : wd_S} (h : fn_Mo_judge  S = some S') : ev_r tb_P L xs (2 + 1) 172 [.ref 135] (wd_k S) (.inl none, wd_k S') := by
  unfold fn_Mo_judge at h
  refine ev_of (Nat.le_of_ble_eq_true rfl) ?_
  show go_r tb_P L xs 2 172 0 [(0, .ref 135)] [] (wd_k S) (.inl none, wd_k S')
  refine bk_b (q := (2, [(0, .ref 135)], [.int (0 : Int32), .ref 135])) tb_c_172_0 mx_172 2 rfl ?_
  obtain ⟨S1, eS1, h⟩ := wd_bx h
  refine bk_pi tb_c_172_0 rfl rfl (ci := 11) (k := 40) rfl rfl rfl rfl ?_
  rw [eS1]
  refine bk_b (q := (7, [(1, .int (0 : Int32)), (0, .ref 135)], [])) tb_c_172_0 mx_172 2 rfl ?_
  exact go_lv (ls_sc rfl rfl (ls_sc rfl rfl ls_nil)) (sn_Mo_judge_7 wd_F h)
