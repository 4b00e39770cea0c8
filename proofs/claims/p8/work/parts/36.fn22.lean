/-! Methods as functions: printed by wip/whole/gen_fn.py. -/
theorem mx_179 : mi_mx tb_P 179 = 6 := rfl
noncomputable def fn_Mo_make_273 : Nat → Int32 → wd_S → Option (Int32 × wd_S)
  | 0, _, _ => none
  | n + 1, l5, S =>
    (if l5 < (4 : Int32) then
      (if (l5 < 0 ∨ 4 ≤ l5.toNatClampNeg) ∨ ¬mi_fit .boolean (.int (0 : Int32)) = true then none else
      (wd_b (wd_i S 173 l5.toNatClampNeg (0 : Int32)) fun S31 =>
      fn_Mo_make_273 n (l5 + (1 : Int32)) S31))
    else
      some (S.1 135 59, S))
set_option maxRecDepth 100000 in
theorem sn_Mo_make_273 {L : Nat} {xs : Nat → Int32} : ∀ (n : Nat) {l5 : Int32} {S : wd_S} {x : Int32} {S' : wd_S}, fn_Mo_make_273 n l5 S = some (x, S') → go_r tb_P L xs 6 179 273 [(0, .ref 135), (5, .int l5)] [] (wd_k S) (.inl (some (.int x)), wd_k S') := by
  intro n
  induction n with
  | zero => intro l5 S x S'  h; cases h
  | succ n ih =>
    intro l5 S x S'  h
    rw [fn_Mo_make_273] at h
    refine bk_b (q := (276, [(0, .ref 135), (5, .int l5)], [.int (4 : Int32), .int l5])) tb_c_179_3 mx_179 2 rfl ?_
    by_cases g29 : l5 < (4 : Int32)
    · rw [if_pos g29] at h
      refine bk_jf tb_c_179_3 rfl (pc' := 279) rfl (t := 293) rfl (cm_ge_f g29) ?_
      refine bk_b (q := (280, [(0, .ref 135), (5, .int l5)], [.ref 135])) tb_c_179_3 mx_179 1 rfl ?_
      refine bk_gc tb_c_179_3 rfl rfl (ci := 11) (k := 84) rfl rfl rfl ?_
      refine bk_b (q := (286, [(0, .ref 135), (5, .int l5)], [.int (0 : Int32), .int l5, .ref 173])) tb_c_179_3 mx_179 2 rfl ?_
      by_cases g30 : (l5 < 0 ∨ 4 ≤ l5.toNatClampNeg) ∨ ¬mi_fit .boolean (.int (0 : Int32)) = true
      · rw [if_pos g30] at h; cases h
      · rw [if_neg g30] at h
        obtain ⟨S31, eS31, h⟩ := wd_bx h
        refine bk_s1 tb_c_179_3 rfl rfl rfl (fun q => g30 (Or.inl q)) (Decidable.not_not.mp (fun q => g30 (Or.inr q))) ?_
        rw [eS31]
        refine bk_b (q := (273, [(5, .int (l5 + (1 : Int32))), (0, .ref 135)], [])) tb_c_179_3 mx_179 2 rfl ?_
        exact go_lv (ls_sc rfl rfl (ls_sc rfl rfl ls_nil)) (ih h)
    · rw [if_neg g29] at h
      refine bk_jt tb_c_179_3 rfl (pc' := 293) rfl (cm_ge_t g29) ?_
      refine bk_b (q := (294, [(0, .ref 135), (5, .int l5)], [.ref 135])) tb_c_179_4 mx_179 1 rfl ?_
      refine bk_gi tb_c_179_4 rfl rfl (ci := 11) (k := 59) rfl rfl rfl ?_
      cases h
      exact bk_t tb_c_179_4 rfl rfl
noncomputable def fn_Mo_make_208 (S : wd_S) : Option (Int32 × wd_S) :=
  (if (S.1 135 73) = 0 then
    (wd_b (wd_i S 135 63 (S.1 135 64)) fun S23 =>
    (wd_b (wd_i S23 135 59 (S23.1 135 65)) fun S24 =>
    (wd_b (wd_i S24 135 60 (S24.1 135 66)) fun S25 =>
    (wd_b (wd_i S25 135 61 (S25.1 135 68)) fun S26 =>
    (wd_b (wd_i S26 135 62 (S26.1 135 69)) fun S27 =>
    (wd_b (wd_i S27 135 72 (S27.1 135 71)) fun S28 =>
    fn_Mo_make_273 wd_F (0 : Int32) S28))))))
  else
    (wd_b (wd_i S 135 0 (3 : Int32)) fun S32 =>
    some ((0 : Int32), S32)))
set_option maxRecDepth 100000 in
theorem sn_Mo_make_208 {L : Nat} {xs : Nat → Int32} {S : wd_S} {x : Int32} {S' : wd_S} (h : fn_Mo_make_208  S = some (x, S')) : go_r tb_P L xs 6 179 208 [(0, .ref 135)] [] (wd_k S) (.inl (some (.int x)), wd_k S') := by
  unfold fn_Mo_make_208 at h
  refine bk_b (q := (209, [(0, .ref 135)], [.ref 135])) tb_c_179_2 mx_179 1 rfl ?_
  refine bk_gi tb_c_179_2 rfl rfl (ci := 11) (k := 73) rfl rfl rfl ?_
  by_cases g22 : (S.1 135 73) = 0
  · rw [if_pos g22] at h
    refine bk_zt tb_c_179_2 rfl (pc' := 222) rfl (cm_eq_t g22) ?_
    refine bk_b (q := (224, [(0, .ref 135)], [.ref 135, .ref 135])) tb_c_179_3 mx_179 2 rfl ?_
    refine bk_gi tb_c_179_3 rfl rfl (ci := 11) (k := 64) rfl rfl rfl ?_
    obtain ⟨S23, eS23, h⟩ := wd_bx h
    refine bk_pi tb_c_179_3 rfl rfl (ci := 11) (k := 63) rfl rfl rfl rfl ?_
    rw [eS23]
    refine bk_b (q := (232, [(0, .ref 135)], [.ref 135, .ref 135])) tb_c_179_3 mx_179 2 rfl ?_
    refine bk_gi tb_c_179_3 rfl rfl (ci := 11) (k := 65) rfl rfl rfl ?_
    obtain ⟨S24, eS24, h⟩ := wd_bx h
    refine bk_pi tb_c_179_3 rfl rfl (ci := 11) (k := 59) rfl rfl rfl rfl ?_
    rw [eS24]
    refine bk_b (q := (240, [(0, .ref 135)], [.ref 135, .ref 135])) tb_c_179_3 mx_179 2 rfl ?_
    refine bk_gi tb_c_179_3 rfl rfl (ci := 11) (k := 66) rfl rfl rfl ?_
    obtain ⟨S25, eS25, h⟩ := wd_bx h
    refine bk_pi tb_c_179_3 rfl rfl (ci := 11) (k := 60) rfl rfl rfl rfl ?_
    rw [eS25]
    refine bk_b (q := (248, [(0, .ref 135)], [.ref 135, .ref 135])) tb_c_179_3 mx_179 2 rfl ?_
    refine bk_gi tb_c_179_3 rfl rfl (ci := 11) (k := 68) rfl rfl rfl ?_
    obtain ⟨S26, eS26, h⟩ := wd_bx h
    refine bk_pi tb_c_179_3 rfl rfl (ci := 11) (k := 61) rfl rfl rfl rfl ?_
    rw [eS26]
    refine bk_b (q := (256, [(0, .ref 135)], [.ref 135, .ref 135])) tb_c_179_3 mx_179 2 rfl ?_
    refine bk_gi tb_c_179_3 rfl rfl (ci := 11) (k := 69) rfl rfl rfl ?_
    obtain ⟨S27, eS27, h⟩ := wd_bx h
    refine bk_pi tb_c_179_3 rfl rfl (ci := 11) (k := 62) rfl rfl rfl rfl ?_
    rw [eS27]
    refine bk_b (q := (264, [(0, .ref 135)], [.ref 135, .ref 135])) tb_c_179_3 mx_179 2 rfl ?_
    refine bk_gi tb_c_179_3 rfl rfl (ci := 11) (k := 71) rfl rfl rfl ?_
    obtain ⟨S28, eS28, h⟩ := wd_bx h
    refine bk_pi tb_c_179_3 rfl rfl (ci := 11) (k := 72) rfl rfl rfl rfl ?_
    rw [eS28]
    refine bk_b (q := (273, [(5, .int (0 : Int32)), (0, .ref 135)], [])) tb_c_179_3 mx_179 2 rfl ?_
    exact go_lv (ls_sc rfl rfl (ls_sc rfl rfl ls_nil)) (sn_Mo_make_273 wd_F h)
  · rw [if_neg g22] at h
    refine bk_zf tb_c_179_2 rfl (pc' := 215) rfl (t := 222) rfl (cm_eq_f g22) ?_
    refine bk_b (q := (216, [(0, .ref 135)], [.ref 135])) tb_c_179_2 mx_179 1 rfl ?_
    refine bk_b (q := (217, [(0, .ref 135)], [.int (3 : Int32), .ref 135])) tb_c_179_3 mx_179 1 rfl ?_
    obtain ⟨S32, eS32, h⟩ := wd_bx h
    refine bk_pi tb_c_179_3 rfl rfl (ci := 11) (k := 0) rfl rfl rfl rfl ?_
    rw [eS32]
    refine bk_b (q := (221, [(0, .ref 135)], [.int (0 : Int32)])) tb_c_179_3 mx_179 1 rfl ?_
    cases h
    exact bk_t tb_c_179_3 rfl rfl
noncomputable def fn_Mo_make_172 : Nat → Int32 → wd_S → Option (Int32 × wd_S)
  | 0, _, _ => none
  | n + 1, l5, S =>
    (if l5 < (S.1 135 65) then
      (if (S.1 135 73) = 0 then
        (wd_d (fn_Mo_makeVersion (((80 : Int32) * (S.1 135 64)) + l5) S) fun S34 =>
        fn_Mo_make_172 n (l5 + (1 : Int32)) S34)
      else
        fn_Mo_make_208  S)
    else
      fn_Mo_make_208  S)
set_option maxRecDepth 100000 in
theorem sn_Mo_make_172 {L : Nat} {xs : Nat → Int32} : ∀ (n : Nat) {l5 : Int32} {S : wd_S} {x : Int32} {S' : wd_S}, fn_Mo_make_172 n l5 S = some (x, S') → go_r tb_P L xs 6 179 172 [(0, .ref 135), (5, .int l5)] [] (wd_k S) (.inl (some (.int x)), wd_k S') := by
  intro n
  induction n with
  | zero => intro l5 S x S'  h; cases h
  | succ n ih =>
    intro l5 S x S'  h
    rw [fn_Mo_make_172] at h
    refine bk_b (q := (175, [(0, .ref 135), (5, .int l5)], [.ref 135, .int l5])) tb_c_179_2 mx_179 2 rfl ?_
    refine bk_gi tb_c_179_2 rfl rfl (ci := 11) (k := 65) rfl rfl rfl ?_
    by_cases g21 : l5 < (S.1 135 65)
    · rw [if_pos g21] at h
      refine bk_jf tb_c_179_2 rfl (pc' := 181) rfl (t := 208) rfl (cm_ge_f g21) ?_
      refine bk_b (q := (182, [(0, .ref 135), (5, .int l5)], [.ref 135])) tb_c_179_2 mx_179 1 rfl ?_
      refine bk_gi tb_c_179_2 rfl rfl (ci := 11) (k := 73) rfl rfl rfl ?_
      by_cases g33 : (S.1 135 73) = 0
      · rw [if_pos g33] at h
        refine bk_zf tb_c_179_2 rfl (pc' := 188) rfl (t := 208) rfl (cm_ne_f g33) ?_
        refine bk_b (q := (192, [(0, .ref 135), (5, .int l5)], [.ref 135, .int (80 : Int32), .ref 135])) tb_c_179_2 mx_179 3 rfl ?_
        refine bk_gi tb_c_179_2 rfl rfl (ci := 11) (k := 64) rfl rfl rfl ?_
        refine bk_b (q := (199, [(0, .ref 135), (5, .int l5)], [.int (((80 : Int32) * (S.1 135 64)) + l5), .ref 135])) tb_c_179_2 mx_179 3 rfl ?_
        obtain ⟨S34, c36, h⟩ := wd_dx h
        refine bk_kv tb_c_179_2 rfl rfl rfl rfl rfl (ci := 11) rfl rfl (ev_up (Nat.le_of_ble_eq_true rfl) (sn_Mo_makeVersion c36)) ?_
        refine bk_b (q := (172, [(5, .int (l5 + (1 : Int32))), (0, .ref 135)], [])) tb_c_179_2 mx_179 2 rfl ?_
        exact go_lv (ls_sc rfl rfl (ls_sc rfl rfl ls_nil)) (ih h)
      · rw [if_neg g33] at h
        refine bk_zt tb_c_179_2 rfl (pc' := 208) rfl (cm_ne_t g33) ?_
        exact go_lv (ls_sc rfl rfl ls_nil) (sn_Mo_make_208 h)
    · rw [if_neg g21] at h
      refine bk_jt tb_c_179_2 rfl (pc' := 208) rfl (cm_ge_t g21) ?_
      exact go_lv (ls_sc rfl rfl ls_nil) (sn_Mo_make_208 h)
noncomputable def fn_Mo_make_138 (kk108 : Int32 → Int32 → Int32 → wd_S → Option (Int32 × wd_S)) (l2 : Int32) (l4 : Int32) (s0 : Int32) (s1 : Int32) (S : wd_S) : Option (Int32 × wd_S) :=
  (if l4 < 0 ∨ 4 ≤ l4.toNatClampNeg then none else
  (if l4 < 0 ∨ 4 ≤ l4.toNatClampNeg then none else
  (wd_b (wd_i S 171 l4.toNatClampNeg (S.1 174 l4.toNatClampNeg)) fun S41 =>
  kk108 l2 (s0 ||| s1) (l4 + (1 : Int32)) S41)))
set_option maxRecDepth 100000 in
theorem sn_Mo_make_138 {L : Nat} {xs : Nat → Int32} {kk108 : Int32 → Int32 → Int32 → wd_S → Option (Int32 × wd_S)} (hk108 : ∀ {l2 : Int32} {l3 : Int32} {l4 : Int32} {S : wd_S} {x : Int32} {S' : wd_S}, kk108 l2 l3 l4 S = some (x, S') → go_r tb_P L xs 6 179 108 [(0, .ref 135), (2, .int l2), (3, .int l3), (4, .int l4)] [] (wd_k S) (.inl (some (.int x)), wd_k S')) {l2 : Int32} {l4 : Int32} {s0 : Int32} {s1 : Int32} {S : wd_S} {x : Int32} {S' : wd_S} (h : fn_Mo_make_138 kk108 l2 l4 s0 s1 S = some (x, S')) : go_r tb_P L xs 6 179 138 [(0, .ref 135), (2, .int l2), (4, .int l4)] [.int s1, .int s0] (wd_k S) (.inl (some (.int x)), wd_k S') := by
  unfold fn_Mo_make_138 at h
  refine bk_b (q := (139, [(0, .ref 135), (2, .int l2), (4, .int l4)], [.int (s0 ||| s1)])) tb_c_179_1 mx_179 1 rfl ?_
  refine bk_b (q := (141, [(3, .int (s0 ||| s1)), (0, .ref 135), (2, .int l2), (4, .int l4)], [.ref 135])) tb_c_179_2 mx_179 2 rfl ?_
  refine bk_gc tb_c_179_2 rfl rfl (ci := 11) (k := 82) rfl rfl rfl ?_
  refine bk_b (q := (147, [(3, .int (s0 ||| s1)), (0, .ref 135), (2, .int l2), (4, .int l4)], [.ref 135, .int l4, .ref 171])) tb_c_179_2 mx_179 2 rfl ?_
  refine bk_gc tb_c_179_2 rfl rfl (ci := 11) (k := 85) rfl rfl rfl ?_
  refine bk_b (q := (152, [(3, .int (s0 ||| s1)), (0, .ref 135), (2, .int l2), (4, .int l4)], [.int l4, .ref 174, .int l4, .ref 171])) tb_c_179_2 mx_179 1 rfl ?_
  by_cases g39 : l4 < 0 ∨ 4 ≤ l4.toNatClampNeg
  · rw [if_pos g39] at h; cases h
  · rw [if_neg g39] at h
    refine bk_a4 tb_c_179_2 rfl rfl rfl g39 ?_
    by_cases g40 : l4 < 0 ∨ 4 ≤ l4.toNatClampNeg
    · rw [if_pos g40] at h; cases h
    · rw [if_neg g40] at h
      obtain ⟨S41, eS41, h⟩ := wd_bx h
      refine bk_s4 tb_c_179_2 rfl rfl rfl g40 ?_
      rw [eS41]
      refine bk_b (q := (108, [(4, .int (l4 + (1 : Int32))), (3, .int (s0 ||| s1)), (0, .ref 135), (2, .int l2)], [])) tb_c_179_2 mx_179 2 rfl ?_
      exact go_lv (ls_sc rfl rfl (ls_sc rfl rfl (ls_sc rfl rfl (ls_sc rfl rfl ls_nil)))) (hk108 h)
noncomputable def fn_Mo_make_108 : Nat → Int32 → Int32 → Int32 → wd_S → Option (Int32 × wd_S)
  | 0, _, _, _, _ => none
  | n + 1, l2, l3, l4, S =>
    (if l2 < 0 ∨ 96 ≤ l2.toNatClampNeg then none else
    (if l4 < (S.1 138 l2.toNatClampNeg) then
      (if l4 < 0 ∨ 4 ≤ l4.toNatClampNeg then none else
      (if (S.1 173 l4.toNatClampNeg) = 0 then
        fn_Mo_make_138 (fn_Mo_make_108 n) l2 l4 l3 (0 : Int32) S
      else
        fn_Mo_make_138 (fn_Mo_make_108 n) l2 l4 l3 ((1 : Int32) <<< (l4 &&& 31)) S))
    else
      (wd_c (fn_Mo_versionOf l2 l3 (1 : Int32) S) fun x19 S18 =>
      fn_Mo_make_172 wd_F (0 : Int32) S18)))
set_option maxRecDepth 100000 in
theorem sn_Mo_make_108 {L : Nat} {xs : Nat → Int32} : ∀ (n : Nat) {l2 : Int32} {l3 : Int32} {l4 : Int32} {S : wd_S} {x : Int32} {S' : wd_S}, fn_Mo_make_108 n l2 l3 l4 S = some (x, S') → go_r tb_P L xs 6 179 108 [(0, .ref 135), (2, .int l2), (3, .int l3), (4, .int l4)] [] (wd_k S) (.inl (some (.int x)), wd_k S') := by
  intro n
  induction n with
  | zero => intro l2 l3 l4 S x S'  h; cases h
  | succ n ih =>
    intro l2 l3 l4 S x S'  h
    rw [fn_Mo_make_108] at h
    refine bk_b (q := (111, [(0, .ref 135), (2, .int l2), (3, .int l3), (4, .int l4)], [.ref 135, .int l4])) tb_c_179_1 mx_179 2 rfl ?_
    refine bk_gc tb_c_179_1 rfl rfl (ci := 11) (k := 12) rfl rfl rfl ?_
    refine bk_b (q := (115, [(0, .ref 135), (2, .int l2), (3, .int l3), (4, .int l4)], [.int l2, .ref 138, .int l4])) tb_c_179_1 mx_179 1 rfl ?_
    by_cases g16 : l2 < 0 ∨ 96 ≤ l2.toNatClampNeg
    · rw [if_pos g16] at h; cases h
    · rw [if_neg g16] at h
      refine bk_a4 tb_c_179_1 rfl rfl rfl g16 ?_
      by_cases g17 : l4 < (S.1 138 l2.toNatClampNeg)
      · rw [if_pos g17] at h
        refine bk_jf tb_c_179_1 rfl (pc' := 119) rfl (t := 160) rfl (cm_ge_f g17) ?_
        refine bk_b (q := (121, [(0, .ref 135), (2, .int l2), (3, .int l3), (4, .int l4)], [.ref 135, .int l3])) tb_c_179_1 mx_179 2 rfl ?_
        refine bk_gc tb_c_179_1 rfl rfl (ci := 11) (k := 84) rfl rfl rfl ?_
        refine bk_b (q := (126, [(0, .ref 135), (2, .int l2), (3, .int l3), (4, .int l4)], [.int l4, .ref 173, .int l3])) tb_c_179_1 mx_179 1 rfl ?_
        by_cases g37 : l4 < 0 ∨ 4 ≤ l4.toNatClampNeg
        · rw [if_pos g37] at h; cases h
        · rw [if_neg g37] at h
          refine bk_a1 tb_c_179_1 rfl rfl rfl g37 ?_
          by_cases g38 : (S.1 173 l4.toNatClampNeg) = 0
          · rw [if_pos g38] at h
            refine bk_zt tb_c_179_1 rfl (pc' := 137) rfl (cm_eq_t g38) ?_
            refine bk_b (q := (138, [(0, .ref 135), (2, .int l2), (3, .int l3), (4, .int l4)], [.int (0 : Int32), .int l3])) tb_c_179_1 mx_179 1 rfl ?_
            exact go_lv (ls_sc rfl rfl (ls_sc rfl rfl (ls_sc rfl rfl ls_nil))) (sn_Mo_make_138 ih h)
          · rw [if_neg g38] at h
            refine bk_zf tb_c_179_1 rfl (pc' := 130) rfl (t := 137) rfl (cm_eq_f g38) ?_
            refine bk_b (q := (138, [(0, .ref 135), (2, .int l2), (3, .int l3), (4, .int l4)], [.int ((1 : Int32) <<< (l4 &&& 31)), .int l3])) tb_c_179_1 mx_179 4 rfl ?_
            exact go_lv (ls_sc rfl rfl (ls_sc rfl rfl (ls_sc rfl rfl ls_nil))) (sn_Mo_make_138 ih h)
      · rw [if_neg g17] at h
        refine bk_jt tb_c_179_1 rfl (pc' := 160) rfl (cm_ge_t g17) ?_
        refine bk_b (q := (164, [(0, .ref 135), (2, .int l2), (3, .int l3), (4, .int l4)], [.int (1 : Int32), .int l3, .int l2, .ref 135])) tb_c_179_2 mx_179 4 rfl ?_
        obtain ⟨x19, S18, c20, h⟩ := wd_cx h
        refine bk_kv tb_c_179_2 rfl rfl rfl rfl rfl (ci := 11) rfl rfl (ev_up (Nat.le_of_ble_eq_true rfl) (sn_Mo_versionOf c20)) ?_
        refine bk_b (q := (172, [(5, .int (0 : Int32)), (4, .int x19), (0, .ref 135), (2, .int l2), (3, .int l3)], [])) tb_c_179_2 mx_179 3 rfl ?_
        exact go_lv (ls_sc rfl rfl (ls_sc rfl rfl ls_nil)) (sn_Mo_make_172 wd_F h)
noncomputable def fn_Mo_make_25 (l1 : Int32) (s1 : Int32) (S : wd_S) : Option (Int32 × wd_S) :=
  (wd_b (wd_i S 135 0 s1) fun S6 =>
  (if 0 < (S6.1 135 0) then
    some ((0 : Int32), S6)
  else
    (wd_b (wd_i S6 135 64 ((1 : Int32) - (S6.1 135 63))) fun S8 =>
    (wd_b (wd_i S8 135 65 (0 : Int32)) fun S9 =>
    (wd_b (wd_i S9 135 66 (0 : Int32)) fun S10 =>
    (wd_b (wd_i S10 135 67 ((3004 : Int32) + ((6002 : Int32) * (S10.1 135 64)))) fun S11 =>
    (wd_b (wd_i S11 135 68 (0 : Int32)) fun S12 =>
    (wd_b (wd_i S12 135 69 (0 : Int32)) fun S13 =>
    (wd_b (wd_i S13 135 71 (0 : Int32)) fun S14 =>
    (wd_b (wd_i S14 135 73 (0 : Int32)) fun S15 =>
    fn_Mo_make_108 wd_F (((48 : Int32) * (S6.1 135 42)) + l1) (0 : Int32) (0 : Int32) S15))))))))))
set_option maxRecDepth 100000 in
theorem sn_Mo_make_25 {L : Nat} {xs : Nat → Int32} {l1 : Int32} {s1 : Int32} {S : wd_S} {x : Int32} {S' : wd_S} (h : fn_Mo_make_25 l1 s1 S = some (x, S')) : go_r tb_P L xs 6 179 25 [(0, .ref 135), (1, .int l1)] [.int s1, .ref 135] (wd_k S) (.inl (some (.int x)), wd_k S') := by
  unfold fn_Mo_make_25 at h
  obtain ⟨S6, eS6, h⟩ := wd_bx h
  refine bk_pi tb_c_179_0 rfl rfl (ci := 11) (k := 0) rfl rfl rfl rfl ?_
  rw [eS6]
  refine bk_b (q := (29, [(0, .ref 135), (1, .int l1)], [.ref 135])) tb_c_179_0 mx_179 1 rfl ?_
  refine bk_gi tb_c_179_0 rfl rfl (ci := 11) (k := 0) rfl rfl rfl ?_
  by_cases g7 : 0 < (S6.1 135 0)
  · rw [if_pos g7] at h
    refine bk_zf tb_c_179_0 rfl (pc' := 35) rfl (t := 37) rfl (cm_le_f g7) ?_
    refine bk_b (q := (36, [(0, .ref 135), (1, .int l1)], [.int (0 : Int32)])) tb_c_179_0 mx_179 1 rfl ?_
    cases h
    exact bk_t tb_c_179_0 rfl rfl
  · rw [if_neg g7] at h
    refine bk_zt tb_c_179_0 rfl (pc' := 37) rfl (cm_le_t g7) ?_
    refine bk_b (q := (40, [(0, .ref 135), (1, .int l1)], [.ref 135, .int (48 : Int32)])) tb_c_179_0 mx_179 2 rfl ?_
    refine bk_gi tb_c_179_0 rfl rfl (ci := 11) (k := 42) rfl rfl rfl ?_
    refine bk_b (q := (50, [(2, .int (((48 : Int32) * (S6.1 135 42)) + l1)), (0, .ref 135), (1, .int l1)], [.ref 135, .int (1 : Int32), .ref 135])) tb_c_179_0 mx_179 7 rfl ?_
    refine bk_gi tb_c_179_0 rfl rfl (ci := 11) (k := 63) rfl rfl rfl ?_
    refine bk_b (q := (54, [(2, .int (((48 : Int32) * (S6.1 135 42)) + l1)), (0, .ref 135), (1, .int l1)], [.int ((1 : Int32) - (S6.1 135 63)), .ref 135])) tb_c_179_0 mx_179 1 rfl ?_
    obtain ⟨S8, eS8, h⟩ := wd_bx h
    refine bk_pi tb_c_179_0 rfl rfl (ci := 11) (k := 64) rfl rfl rfl rfl ?_
    rw [eS8]
    refine bk_b (q := (59, [(2, .int (((48 : Int32) * (S6.1 135 42)) + l1)), (0, .ref 135), (1, .int l1)], [.int (0 : Int32), .ref 135])) tb_c_179_0 mx_179 2 rfl ?_
    obtain ⟨S9, eS9, h⟩ := wd_bx h
    refine bk_pi tb_c_179_0 rfl rfl (ci := 11) (k := 65) rfl rfl rfl rfl ?_
    rw [eS9]
    refine bk_b (q := (64, [(2, .int (((48 : Int32) * (S6.1 135 42)) + l1)), (0, .ref 135), (1, .int l1)], [.int (0 : Int32), .ref 135])) tb_c_179_0 mx_179 2 rfl ?_
    obtain ⟨S10, eS10, h⟩ := wd_bx h
    refine bk_pi tb_c_179_0 rfl rfl (ci := 11) (k := 66) rfl rfl rfl rfl ?_
    rw [eS10]
    refine bk_b (q := (71, [(2, .int (((48 : Int32) * (S6.1 135 42)) + l1)), (0, .ref 135), (1, .int l1)], [.int (3004 : Int32), .ref 135])) tb_c_179_0 mx_179 2 rfl ?_
    refine bk_b (q := (75, [(2, .int (((48 : Int32) * (S6.1 135 42)) + l1)), (0, .ref 135), (1, .int l1)], [.ref 135, .int (6002 : Int32), .int (3004 : Int32), .ref 135])) tb_c_179_1 mx_179 2 rfl ?_
    refine bk_gi tb_c_179_1 rfl rfl (ci := 11) (k := 64) rfl rfl rfl ?_
    refine bk_b (q := (80, [(2, .int (((48 : Int32) * (S6.1 135 42)) + l1)), (0, .ref 135), (1, .int l1)], [.int ((3004 : Int32) + ((6002 : Int32) * (S10.1 135 64))), .ref 135])) tb_c_179_1 mx_179 2 rfl ?_
    obtain ⟨S11, eS11, h⟩ := wd_bx h
    refine bk_pi tb_c_179_1 rfl rfl (ci := 11) (k := 67) rfl rfl rfl rfl ?_
    rw [eS11]
    refine bk_b (q := (85, [(2, .int (((48 : Int32) * (S6.1 135 42)) + l1)), (0, .ref 135), (1, .int l1)], [.int (0 : Int32), .ref 135])) tb_c_179_1 mx_179 2 rfl ?_
    obtain ⟨S12, eS12, h⟩ := wd_bx h
    refine bk_pi tb_c_179_1 rfl rfl (ci := 11) (k := 68) rfl rfl rfl rfl ?_
    rw [eS12]
    refine bk_b (q := (90, [(2, .int (((48 : Int32) * (S6.1 135 42)) + l1)), (0, .ref 135), (1, .int l1)], [.int (0 : Int32), .ref 135])) tb_c_179_1 mx_179 2 rfl ?_
    obtain ⟨S13, eS13, h⟩ := wd_bx h
    refine bk_pi tb_c_179_1 rfl rfl (ci := 11) (k := 69) rfl rfl rfl rfl ?_
    rw [eS13]
    refine bk_b (q := (95, [(2, .int (((48 : Int32) * (S6.1 135 42)) + l1)), (0, .ref 135), (1, .int l1)], [.int (0 : Int32), .ref 135])) tb_c_179_1 mx_179 2 rfl ?_
    obtain ⟨S14, eS14, h⟩ := wd_bx h
    refine bk_pi tb_c_179_1 rfl rfl (ci := 11) (k := 71) rfl rfl rfl rfl ?_
    rw [eS14]
    refine bk_b (q := (100, [(2, .int (((48 : Int32) * (S6.1 135 42)) + l1)), (0, .ref 135), (1, .int l1)], [.int (0 : Int32), .ref 135])) tb_c_179_1 mx_179 2 rfl ?_
    obtain ⟨S15, eS15, h⟩ := wd_bx h
    refine bk_pi tb_c_179_1 rfl rfl (ci := 11) (k := 73) rfl rfl rfl rfl ?_
    rw [eS15]
    refine bk_b (q := (108, [(4, .int (0 : Int32)), (3, .int (0 : Int32)), (2, .int (((48 : Int32) * (S6.1 135 42)) + l1)), (0, .ref 135), (1, .int l1)], [])) tb_c_179_1 mx_179 4 rfl ?_
    exact go_lv (ls_sc rfl rfl (ls_sc rfl rfl (ls_sc rfl rfl (ls_sc rfl rfl ls_nil)))) (sn_Mo_make_108 wd_F h)
/-- SpecialiserModel.make(I)I -/
noncomputable def fn_Mo_make (p1 : Int32) (S : wd_S) : Option (Int32 × wd_S) :=
  (if (S.1 135 41) = 0 then
    fn_Mo_make_25 p1 (1 : Int32) S
  else
    (wd_c (fn_Mo_isFn p1 S) fun x3 S2 =>
    (if x3 = 0 then
      fn_Mo_make_25 p1 (2 : Int32) S2
    else
      fn_Mo_make_25 p1 (0 : Int32) S2)))
set_option maxRecDepth 100000 in
theorem sn_Mo_make {L : Nat} {xs : Nat → Int32} {p1 : Int32} {S : wd_S} {x : Int32} {S' : wd_S} (h : fn_Mo_make p1 S = some (x, S')) : ev_r tb_P L xs (6 + 1) 179 [.ref 135, .int p1] (wd_k S) (.inl (some (.int x)), wd_k S') := by
  unfold fn_Mo_make at h
  refine ev_of (Nat.le_of_ble_eq_true rfl) ?_
  show go_r tb_P L xs 6 179 0 [(0, .ref 135), (1, .int p1)] [] (wd_k S) (.inl (some (.int x)), wd_k S')
  refine bk_b (q := (2, [(0, .ref 135), (1, .int p1)], [.ref 135, .ref 135])) tb_c_179_0 mx_179 2 rfl ?_
  refine bk_gi tb_c_179_0 rfl rfl (ci := 11) (k := 41) rfl rfl rfl ?_
  by_cases g1 : (S.1 135 41) = 0
  · rw [if_pos g1] at h
    refine bk_zf tb_c_179_0 rfl (pc' := 8) rfl (t := 12) rfl (cm_ne_f g1) ?_
    refine bk_b (q := (25, [(0, .ref 135), (1, .int p1)], [.int (1 : Int32), .ref 135])) tb_c_179_0 mx_179 2 rfl ?_
    exact go_lv (ls_sc rfl rfl (ls_sc rfl rfl ls_nil)) (sn_Mo_make_25 h)
  · rw [if_neg g1] at h
    refine bk_zt tb_c_179_0 rfl (pc' := 12) rfl (cm_ne_t g1) ?_
    refine bk_b (q := (14, [(0, .ref 135), (1, .int p1)], [.int p1, .ref 135, .ref 135])) tb_c_179_0 mx_179 2 rfl ?_
    obtain ⟨x3, S2, c4, h⟩ := wd_cx h
    refine bk_kv tb_c_179_0 rfl rfl rfl rfl rfl (ci := 11) rfl rfl (ev_up (Nat.le_of_ble_eq_true rfl) (sn_Mo_isFn c4)) ?_
    by_cases g5 : x3 = 0
    · rw [if_pos g5] at h
      refine bk_zf tb_c_179_0 rfl (pc' := 20) rfl (t := 24) rfl (cm_ne_f g5) ?_
      refine bk_b (q := (25, [(0, .ref 135), (1, .int p1)], [.int (2 : Int32), .ref 135])) tb_c_179_0 mx_179 2 rfl ?_
      exact go_lv (ls_sc rfl rfl (ls_sc rfl rfl ls_nil)) (sn_Mo_make_25 h)
    · rw [if_neg g5] at h
      refine bk_zt tb_c_179_0 rfl (pc' := 24) rfl (cm_ne_t g5) ?_
      refine bk_b (q := (25, [(0, .ref 135), (1, .int p1)], [.int (0 : Int32), .ref 135])) tb_c_179_0 mx_179 1 rfl ?_
      exact go_lv (ls_sc rfl rfl (ls_sc rfl rfl ls_nil)) (sn_Mo_make_25 h)
theorem mx_193 : mi_mx tb_P 193 = 4 := rfl
noncomputable def fn_Mo_leftOf_14 : Nat → Int32 → Int32 → Int32 → wd_S → Option (Int32 × wd_S)
  | 0, _, _, _, _ => none
  | n + 1, l1, l2, l3, S =>
    (if l3 < (4 : Int32) then
      (if l1 < 0 ∨ 160 ≤ l1.toNatClampNeg then none else
      fn_Mo_leftOf_14 n l1 (l2 - (((S.1 160 l1.toNatClampNeg) >>> (l3 &&& 31)) &&& (1 : Int32))) (l3 + (1 : Int32)) S)
    else
      some (l2, S))
set_option maxRecDepth 100000 in
theorem sn_Mo_leftOf_14 {L : Nat} {xs : Nat → Int32} : ∀ (n : Nat) {l1 : Int32} {l2 : Int32} {l3 : Int32} {S : wd_S} {x : Int32} {S' : wd_S}, fn_Mo_leftOf_14 n l1 l2 l3 S = some (x, S') → go_r tb_P L xs 0 193 14 [(0, .ref 135), (1, .int l1), (2, .int l2), (3, .int l3)] [] (wd_k S) (.inl (some (.int x)), wd_k S') := by
  intro n
  induction n with
  | zero => intro l1 l2 l3 S x S'  h; cases h
  | succ n ih =>
    intro l1 l2 l3 S x S'  h
    rw [fn_Mo_leftOf_14] at h
    refine bk_b (q := (16, [(0, .ref 135), (1, .int l1), (2, .int l2), (3, .int l3)], [.int (4 : Int32), .int l3])) tb_c_193_0 mx_193 2 rfl ?_
    by_cases g3 : l3 < (4 : Int32)
    · rw [if_pos g3] at h
      refine bk_jf tb_c_193_0 rfl (pc' := 19) rfl (t := 38) rfl (cm_ge_f g3) ?_
      refine bk_b (q := (21, [(0, .ref 135), (1, .int l1), (2, .int l2), (3, .int l3)], [.ref 135, .int l2])) tb_c_193_0 mx_193 2 rfl ?_
      refine bk_gc tb_c_193_0 rfl rfl (ci := 11) (k := 54) rfl rfl rfl ?_
      refine bk_b (q := (25, [(0, .ref 135), (1, .int l1), (2, .int l2), (3, .int l3)], [.int l1, .ref 160, .int l2])) tb_c_193_0 mx_193 1 rfl ?_
      by_cases g4 : l1 < 0 ∨ 160 ≤ l1.toNatClampNeg
      · rw [if_pos g4] at h; cases h
      · rw [if_neg g4] at h
        refine bk_a4 tb_c_193_0 rfl rfl rfl g4 ?_
        refine bk_b (q := (14, [(3, .int (l3 + (1 : Int32))), (2, .int (l2 - (((S.1 160 l1.toNatClampNeg) >>> (l3 &&& 31)) &&& (1 : Int32)))), (0, .ref 135), (1, .int l1)], [])) tb_c_193_0 mx_193 8 rfl ?_
        exact go_lv (ls_sc rfl rfl (ls_sc rfl rfl (ls_sc rfl rfl (ls_sc rfl rfl ls_nil)))) (ih h)
    · rw [if_neg g3] at h
      refine bk_jt tb_c_193_0 rfl (pc' := 38) rfl (cm_ge_t g3) ?_
      refine bk_b (q := (39, [(0, .ref 135), (1, .int l1), (2, .int l2), (3, .int l3)], [.int l2])) tb_c_193_0 mx_193 1 rfl ?_
      cases h
      exact bk_t tb_c_193_0 rfl rfl
/-- SpecialiserModel.leftOf(I)I -/
noncomputable def fn_Mo_leftOf (p1 : Int32) (S : wd_S) : Option (Int32 × wd_S) :=
  (if p1 < 0 ∨ 160 ≤ p1.toNatClampNeg then none else
  (if (S.1 159 p1.toNatClampNeg) < 0 ∨ 96 ≤ (S.1 159 p1.toNatClampNeg).toNatClampNeg then none else
  fn_Mo_leftOf_14 wd_F p1 (S.1 138 (S.1 159 p1.toNatClampNeg).toNatClampNeg) (0 : Int32) S))
set_option maxRecDepth 100000 in
theorem sn_Mo_leftOf {L : Nat} {xs : Nat → Int32} {p1 : Int32} {S : wd_S} {x : Int32} {S' : wd_S} (h : fn_Mo_leftOf p1 S = some (x, S')) : ev_r tb_P L xs (0 + 1) 193 [.ref 135, .int p1] (wd_k S) (.inl (some (.int x)), wd_k S') := by
  unfold fn_Mo_leftOf at h
  refine ev_of (Nat.le_of_ble_eq_true rfl) ?_
  show go_r tb_P L xs 0 193 0 [(0, .ref 135), (1, .int p1)] [] (wd_k S) (.inl (some (.int x)), wd_k S')
  refine bk_b (q := (1, [(0, .ref 135), (1, .int p1)], [.ref 135])) tb_c_193_0 mx_193 1 rfl ?_
  refine bk_gc tb_c_193_0 rfl rfl (ci := 11) (k := 12) rfl rfl rfl ?_
  refine bk_b (q := (5, [(0, .ref 135), (1, .int p1)], [.ref 135, .ref 138])) tb_c_193_0 mx_193 1 rfl ?_
  refine bk_gc tb_c_193_0 rfl rfl (ci := 11) (k := 53) rfl rfl rfl ?_
  refine bk_b (q := (9, [(0, .ref 135), (1, .int p1)], [.int p1, .ref 159, .ref 138])) tb_c_193_0 mx_193 1 rfl ?_
  by_cases g1 : p1 < 0 ∨ 160 ≤ p1.toNatClampNeg
  · rw [if_pos g1] at h; cases h
  · rw [if_neg g1] at h
    refine bk_a4 tb_c_193_0 rfl rfl rfl g1 ?_
    by_cases g2 : (S.1 159 p1.toNatClampNeg) < 0 ∨ 96 ≤ (S.1 159 p1.toNatClampNeg).toNatClampNeg
    · rw [if_pos g2] at h; cases h
    · rw [if_neg g2] at h
      refine bk_a4 tb_c_193_0 rfl rfl rfl g2 ?_
      refine bk_b (q := (14, [(3, .int (0 : Int32)), (2, .int (S.1 138 (S.1 159 p1.toNatClampNeg).toNatClampNeg)), (0, .ref 135), (1, .int p1)], [])) tb_c_193_0 mx_193 3 rfl ?_
      exact go_lv (ls_sc rfl rfl (ls_sc rfl rfl (ls_sc rfl rfl (ls_sc rfl rfl ls_nil)))) (sn_Mo_leftOf_14 wd_F h)
theorem mx_192 : mi_mx tb_P 192 = 4 := rfl
noncomputable def fn_Mo_version_153 (s0 : Int32) (S : wd_S) : Option (Int32 × wd_S) :=
  some (s0, S)
set_option maxRecDepth 100000 in
theorem sn_Mo_version_153 {L : Nat} {xs : Nat → Int32} {s0 : Int32} {S : wd_S} {x : Int32} {S' : wd_S} (h : fn_Mo_version_153 s0 S = some (x, S')) : go_r tb_P L xs 1 192 153 [] [.int s0] (wd_k S) (.inl (some (.int x)), wd_k S') := by
  unfold fn_Mo_version_153 at h
  cases h
  exact bk_t tb_c_192_1 rfl rfl
noncomputable def fn_Mo_version_34 (l1 : Int32) (l2 : Int32) (s1 : Int32) (S : wd_S) : Option (Int32 × wd_S) :=
  (wd_b (wd_i S 135 0 s1) fun S5 =>
  (if 0 < (S5.1 135 0) then
    some ((0 : Int32), S5)
  else
    (if l2 = (0 : Int32) then
      (if (((80 : Int32) * (S5.1 135 63)) + l1) < 0 ∨ 160 ≤ (((80 : Int32) * (S5.1 135 63)) + l1).toNatClampNeg then none else
      some (((S5.1 159 (((80 : Int32) * (S5.1 135 63)) + l1).toNatClampNeg) - (S5.1 159 (((80 : Int32) * (S5.1 135 63)) + l1).toNatClampNeg) / (48 : Int32) * (48 : Int32)), S5))
    else
    (if l2 = (1 : Int32) then
      (if (((80 : Int32) * (S5.1 135 63)) + l1) < 0 ∨ 160 ≤ (((80 : Int32) * (S5.1 135 63)) + l1).toNatClampNeg then none else
      some (S5.1 160 (((80 : Int32) * (S5.1 135 63)) + l1).toNatClampNeg, S5))
    else
    (if l2 = (2 : Int32) then
      (wd_c (fn_Mo_leftOf (((80 : Int32) * (S5.1 135 63)) + l1) S5) fun x13 S12 =>
      some (x13, S12))
    else
    (if l2 = (3 : Int32) then
      (if (((80 : Int32) * (S5.1 135 63)) + l1) < 0 ∨ 160 ≤ (((80 : Int32) * (S5.1 135 63)) + l1).toNatClampNeg then none else
      some (S5.1 163 (((80 : Int32) * (S5.1 135 63)) + l1).toNatClampNeg, S5))
    else
    (if l2 = (4 : Int32) then
      (if (((80 : Int32) * (S5.1 135 63)) + l1) < 0 ∨ 160 ≤ (((80 : Int32) * (S5.1 135 63)) + l1).toNatClampNeg then none else
      some (S5.1 164 (((80 : Int32) * (S5.1 135 63)) + l1).toNatClampNeg, S5))
    else
    (if l2 = (5 : Int32) then
      (if (((80 : Int32) * (S5.1 135 63)) + l1) < 0 ∨ 160 ≤ (((80 : Int32) * (S5.1 135 63)) + l1).toNatClampNeg then none else
      (if (S5.1 162 (((80 : Int32) * (S5.1 135 63)) + l1).toNatClampNeg) < 0 ∨ 15010 ≤ (S5.1 162 (((80 : Int32) * (S5.1 135 63)) + l1).toNatClampNeg).toNatClampNeg then none else
      (if (S5.1 143 (S5.1 162 (((80 : Int32) * (S5.1 135 63)) + l1).toNatClampNeg).toNatClampNeg) = (5 : Int32) then
        fn_Mo_version_153 (1 : Int32) S5
      else
        fn_Mo_version_153 (0 : Int32) S5)))
    else
    (if ((((4 : Int32) * (((80 : Int32) * (S5.1 135 63)) + l1)) + l2) - (6 : Int32)) < 0 ∨ 640 ≤ ((((4 : Int32) * (((80 : Int32) * (S5.1 135 63)) + l1)) + l2) - (6 : Int32)).toNatClampNeg then none else
    some (S5.1 161 ((((4 : Int32) * (((80 : Int32) * (S5.1 135 63)) + l1)) + l2) - (6 : Int32)).toNatClampNeg, S5))))))))))
set_option maxRecDepth 100000 in
theorem sn_Mo_version_34 {L : Nat} {xs : Nat → Int32} {l1 : Int32} {l2 : Int32} {s1 : Int32} {S : wd_S} {x : Int32} {S' : wd_S} (h : fn_Mo_version_34 l1 l2 s1 S = some (x, S')) : go_r tb_P L xs 1 192 34 [(0, .ref 135), (1, .int l1), (2, .int l2)] [.int s1, .ref 135] (wd_k S) (.inl (some (.int x)), wd_k S') := by
  unfold fn_Mo_version_34 at h
  obtain ⟨S5, eS5, h⟩ := wd_bx h
  refine bk_pi tb_c_192_0 rfl rfl (ci := 11) (k := 0) rfl rfl rfl rfl ?_
  rw [eS5]
  refine bk_b (q := (38, [(0, .ref 135), (1, .int l1), (2, .int l2)], [.ref 135])) tb_c_192_0 mx_192 1 rfl ?_
  refine bk_gi tb_c_192_0 rfl rfl (ci := 11) (k := 0) rfl rfl rfl ?_
  by_cases g6 : 0 < (S5.1 135 0)
  · rw [if_pos g6] at h
    refine bk_zf tb_c_192_0 rfl (pc' := 44) rfl (t := 46) rfl (cm_le_f g6) ?_
    refine bk_b (q := (45, [(0, .ref 135), (1, .int l1), (2, .int l2)], [.int (0 : Int32)])) tb_c_192_0 mx_192 1 rfl ?_
    cases h
    exact bk_t tb_c_192_0 rfl rfl
  · rw [if_neg g6] at h
    refine bk_zt tb_c_192_0 rfl (pc' := 46) rfl (cm_le_t g6) ?_
    refine bk_b (q := (49, [(0, .ref 135), (1, .int l1), (2, .int l2)], [.ref 135, .int (80 : Int32)])) tb_c_192_0 mx_192 2 rfl ?_
    refine bk_gi tb_c_192_0 rfl rfl (ci := 11) (k := 63) rfl rfl rfl ?_
    refine bk_b (q := (57, [(3, .int (((80 : Int32) * (S5.1 135 63)) + l1)), (0, .ref 135), (1, .int l1), (2, .int l2)], [.int l2])) tb_c_192_0 mx_192 5 rfl ?_
    by_cases g7 : l2 = (0 : Int32)
    · rw [if_pos g7] at h
      refine bk_sw tb_c_192_0 rfl (pc' := 96) (by rw [g7]; rfl) ?_
      refine bk_b (q := (97, [(3, .int (((80 : Int32) * (S5.1 135 63)) + l1)), (0, .ref 135), (1, .int l1), (2, .int l2)], [.ref 135])) tb_c_192_0 mx_192 1 rfl ?_
      refine bk_gc tb_c_192_0 rfl rfl (ci := 11) (k := 53) rfl rfl rfl ?_
      refine bk_b (q := (101, [(3, .int (((80 : Int32) * (S5.1 135 63)) + l1)), (0, .ref 135), (1, .int l1), (2, .int l2)], [.int (((80 : Int32) * (S5.1 135 63)) + l1), .ref 159])) tb_c_192_0 mx_192 1 rfl ?_
      by_cases g8 : (((80 : Int32) * (S5.1 135 63)) + l1) < 0 ∨ 160 ≤ (((80 : Int32) * (S5.1 135 63)) + l1).toNatClampNeg
      · rw [if_pos g8] at h; cases h
      · rw [if_neg g8] at h
        refine bk_a4 tb_c_192_0 rfl rfl rfl g8 ?_
        refine bk_b (q := (104, [(3, .int (((80 : Int32) * (S5.1 135 63)) + l1)), (0, .ref 135), (1, .int l1), (2, .int l2)], [.int (48 : Int32), .int (S5.1 159 (((80 : Int32) * (S5.1 135 63)) + l1).toNatClampNeg)])) tb_c_192_0 mx_192 1 rfl ?_
        refine bk_b (q := (105, [(3, .int (((80 : Int32) * (S5.1 135 63)) + l1)), (0, .ref 135), (1, .int l1), (2, .int l2)], [.int ((S5.1 159 (((80 : Int32) * (S5.1 135 63)) + l1).toNatClampNeg) - (S5.1 159 (((80 : Int32) * (S5.1 135 63)) + l1).toNatClampNeg) / (48 : Int32) * (48 : Int32))])) tb_c_192_1 mx_192 1 rfl ?_
        cases h
        exact bk_t tb_c_192_1 rfl rfl
    · rw [if_neg g7] at h
      by_cases g9 : l2 = (1 : Int32)
      · rw [if_pos g9] at h
        refine bk_sw tb_c_192_0 rfl (pc' := 106) (by rw [g9]; rfl) ?_
        refine bk_b (q := (107, [(3, .int (((80 : Int32) * (S5.1 135 63)) + l1)), (0, .ref 135), (1, .int l1), (2, .int l2)], [.ref 135])) tb_c_192_1 mx_192 1 rfl ?_
        refine bk_gc tb_c_192_1 rfl rfl (ci := 11) (k := 54) rfl rfl rfl ?_
        refine bk_b (q := (111, [(3, .int (((80 : Int32) * (S5.1 135 63)) + l1)), (0, .ref 135), (1, .int l1), (2, .int l2)], [.int (((80 : Int32) * (S5.1 135 63)) + l1), .ref 160])) tb_c_192_1 mx_192 1 rfl ?_
        by_cases g10 : (((80 : Int32) * (S5.1 135 63)) + l1) < 0 ∨ 160 ≤ (((80 : Int32) * (S5.1 135 63)) + l1).toNatClampNeg
        · rw [if_pos g10] at h; cases h
        · rw [if_neg g10] at h
          refine bk_a4 tb_c_192_1 rfl rfl rfl g10 ?_
          cases h
          exact bk_t tb_c_192_1 rfl rfl
      · rw [if_neg g9] at h
        by_cases g11 : l2 = (2 : Int32)
        · rw [if_pos g11] at h
          refine bk_sw tb_c_192_0 rfl (pc' := 113) (by rw [g11]; rfl) ?_
          refine bk_b (q := (115, [(3, .int (((80 : Int32) * (S5.1 135 63)) + l1)), (0, .ref 135), (1, .int l1), (2, .int l2)], [.int (((80 : Int32) * (S5.1 135 63)) + l1), .ref 135])) tb_c_192_1 mx_192 2 rfl ?_
          obtain ⟨x13, S12, c14, h⟩ := wd_cx h
          refine bk_kv tb_c_192_1 rfl rfl rfl rfl rfl (ci := 11) rfl rfl (ev_up (Nat.le_of_ble_eq_true rfl) (sn_Mo_leftOf c14)) ?_
          cases h
          exact bk_t tb_c_192_1 rfl rfl
        · rw [if_neg g11] at h
          by_cases g15 : l2 = (3 : Int32)
          · rw [if_pos g15] at h
            refine bk_sw tb_c_192_0 rfl (pc' := 119) (by rw [g15]; rfl) ?_
            refine bk_b (q := (120, [(3, .int (((80 : Int32) * (S5.1 135 63)) + l1)), (0, .ref 135), (1, .int l1), (2, .int l2)], [.ref 135])) tb_c_192_1 mx_192 1 rfl ?_
            refine bk_gc tb_c_192_1 rfl rfl (ci := 11) (k := 57) rfl rfl rfl ?_
            refine bk_b (q := (124, [(3, .int (((80 : Int32) * (S5.1 135 63)) + l1)), (0, .ref 135), (1, .int l1), (2, .int l2)], [.int (((80 : Int32) * (S5.1 135 63)) + l1), .ref 163])) tb_c_192_1 mx_192 1 rfl ?_
            by_cases g16 : (((80 : Int32) * (S5.1 135 63)) + l1) < 0 ∨ 160 ≤ (((80 : Int32) * (S5.1 135 63)) + l1).toNatClampNeg
            · rw [if_pos g16] at h; cases h
            · rw [if_neg g16] at h
              refine bk_a4 tb_c_192_1 rfl rfl rfl g16 ?_
              cases h
              exact bk_t tb_c_192_1 rfl rfl
          · rw [if_neg g15] at h
            by_cases g17 : l2 = (4 : Int32)
            · rw [if_pos g17] at h
              refine bk_sw tb_c_192_0 rfl (pc' := 126) (by rw [g17]; rfl) ?_
              refine bk_b (q := (127, [(3, .int (((80 : Int32) * (S5.1 135 63)) + l1)), (0, .ref 135), (1, .int l1), (2, .int l2)], [.ref 135])) tb_c_192_1 mx_192 1 rfl ?_
              refine bk_gc tb_c_192_1 rfl rfl (ci := 11) (k := 58) rfl rfl rfl ?_
              refine bk_b (q := (131, [(3, .int (((80 : Int32) * (S5.1 135 63)) + l1)), (0, .ref 135), (1, .int l1), (2, .int l2)], [.int (((80 : Int32) * (S5.1 135 63)) + l1), .ref 164])) tb_c_192_1 mx_192 1 rfl ?_
              by_cases g18 : (((80 : Int32) * (S5.1 135 63)) + l1) < 0 ∨ 160 ≤ (((80 : Int32) * (S5.1 135 63)) + l1).toNatClampNeg
              · rw [if_pos g18] at h; cases h
              · rw [if_neg g18] at h
                refine bk_a4 tb_c_192_1 rfl rfl rfl g18 ?_
                cases h
                exact bk_t tb_c_192_1 rfl rfl
            · rw [if_neg g17] at h
              by_cases g19 : l2 = (5 : Int32)
              · rw [if_pos g19] at h
                refine bk_sw tb_c_192_0 rfl (pc' := 133) (by rw [g19]; rfl) ?_
                refine bk_b (q := (134, [(3, .int (((80 : Int32) * (S5.1 135 63)) + l1)), (0, .ref 135), (1, .int l1), (2, .int l2)], [.ref 135])) tb_c_192_1 mx_192 1 rfl ?_
                refine bk_gc tb_c_192_1 rfl rfl (ci := 11) (k := 17) rfl rfl rfl ?_
                refine bk_b (q := (138, [(3, .int (((80 : Int32) * (S5.1 135 63)) + l1)), (0, .ref 135), (1, .int l1), (2, .int l2)], [.ref 135, .ref 143])) tb_c_192_1 mx_192 1 rfl ?_
                refine bk_gc tb_c_192_1 rfl rfl (ci := 11) (k := 56) rfl rfl rfl ?_
                refine bk_b (q := (142, [(3, .int (((80 : Int32) * (S5.1 135 63)) + l1)), (0, .ref 135), (1, .int l1), (2, .int l2)], [.int (((80 : Int32) * (S5.1 135 63)) + l1), .ref 162, .ref 143])) tb_c_192_1 mx_192 1 rfl ?_
                by_cases g20 : (((80 : Int32) * (S5.1 135 63)) + l1) < 0 ∨ 160 ≤ (((80 : Int32) * (S5.1 135 63)) + l1).toNatClampNeg
                · rw [if_pos g20] at h; cases h
                · rw [if_neg g20] at h
                  refine bk_a4 tb_c_192_1 rfl rfl rfl g20 ?_
                  by_cases g21 : (S5.1 162 (((80 : Int32) * (S5.1 135 63)) + l1).toNatClampNeg) < 0 ∨ 15010 ≤ (S5.1 162 (((80 : Int32) * (S5.1 135 63)) + l1).toNatClampNeg).toNatClampNeg
                  · rw [if_pos g21] at h; cases h
                  · rw [if_neg g21] at h
                    refine bk_a4 tb_c_192_1 rfl rfl rfl g21 ?_
                    refine bk_b (q := (145, [(3, .int (((80 : Int32) * (S5.1 135 63)) + l1)), (0, .ref 135), (1, .int l1), (2, .int l2)], [.int (5 : Int32), .int (S5.1 143 (S5.1 162 (((80 : Int32) * (S5.1 135 63)) + l1).toNatClampNeg).toNatClampNeg)])) tb_c_192_1 mx_192 1 rfl ?_
                    by_cases g22 : (S5.1 143 (S5.1 162 (((80 : Int32) * (S5.1 135 63)) + l1).toNatClampNeg).toNatClampNeg) = (5 : Int32)
                    · rw [if_pos g22] at h
                      refine bk_jf tb_c_192_1 rfl (pc' := 148) rfl (t := 152) rfl (cm_ne_f g22) ?_
                      refine bk_b (q := (153, [(3, .int (((80 : Int32) * (S5.1 135 63)) + l1)), (0, .ref 135), (1, .int l1), (2, .int l2)], [.int (1 : Int32)])) tb_c_192_1 mx_192 2 rfl ?_
                      exact go_lv ls_nil (sn_Mo_version_153 h)
                    · rw [if_neg g22] at h
                      refine bk_jt tb_c_192_1 rfl (pc' := 152) rfl (cm_ne_t g22) ?_
                      refine bk_b (q := (153, [(3, .int (((80 : Int32) * (S5.1 135 63)) + l1)), (0, .ref 135), (1, .int l1), (2, .int l2)], [.int (0 : Int32)])) tb_c_192_1 mx_192 1 rfl ?_
                      exact go_lv ls_nil (sn_Mo_version_153 h)
              · rw [if_neg g19] at h
                refine bk_sw tb_c_192_0 rfl (pc' := 154) (sw_t (t := 154) (fun i h1 h2 => ?_) rfl) ?_
                · have hi : i = 0 ∨ i = 1 ∨ i = 2 ∨ i = 3 ∨ i = 4 ∨ i = 5 := by omega
                  rcases hi with rfl | rfl | rfl | rfl | rfl | rfl
                  · exact g7
                  · exact g9
                  · exact g11
                  · exact g15
                  · exact g17
                  · exact g19
                · refine bk_b (q := (155, [(3, .int (((80 : Int32) * (S5.1 135 63)) + l1)), (0, .ref 135), (1, .int l1), (2, .int l2)], [.ref 135])) tb_c_192_1 mx_192 1 rfl ?_
                  refine bk_gc tb_c_192_1 rfl rfl (ci := 11) (k := 55) rfl rfl rfl ?_
                  refine bk_b (q := (162, [(3, .int (((80 : Int32) * (S5.1 135 63)) + l1)), (0, .ref 135), (1, .int l1), (2, .int l2)], [.int l2, .int ((4 : Int32) * (((80 : Int32) * (S5.1 135 63)) + l1)), .ref 161])) tb_c_192_1 mx_192 4 rfl ?_
                  refine bk_b (q := (166, [(3, .int (((80 : Int32) * (S5.1 135 63)) + l1)), (0, .ref 135), (1, .int l1), (2, .int l2)], [.int ((((4 : Int32) * (((80 : Int32) * (S5.1 135 63)) + l1)) + l2) - (6 : Int32)), .ref 161])) tb_c_192_2 mx_192 3 rfl ?_
                  by_cases g23 : ((((4 : Int32) * (((80 : Int32) * (S5.1 135 63)) + l1)) + l2) - (6 : Int32)) < 0 ∨ 640 ≤ ((((4 : Int32) * (((80 : Int32) * (S5.1 135 63)) + l1)) + l2) - (6 : Int32)).toNatClampNeg
                  · rw [if_pos g23] at h; cases h
                  · rw [if_neg g23] at h
                    refine bk_a4 tb_c_192_2 rfl rfl rfl g23 ?_
                    cases h
                    exact bk_t tb_c_192_2 rfl rfl
noncomputable def fn_Mo_version_33 (l1 : Int32) (l2 : Int32) (S : wd_S) : Option (Int32 × wd_S) :=
  fn_Mo_version_34 l1 l2 (1 : Int32) S
set_option maxRecDepth 100000 in
theorem sn_Mo_version_33 {L : Nat} {xs : Nat → Int32} {l1 : Int32} {l2 : Int32} {S : wd_S} {x : Int32} {S' : wd_S} (h : fn_Mo_version_33 l1 l2 S = some (x, S')) : go_r tb_P L xs 1 192 33 [(0, .ref 135), (1, .int l1), (2, .int l2)] [.ref 135] (wd_k S) (.inl (some (.int x)), wd_k S') := by
  unfold fn_Mo_version_33 at h
  refine bk_b (q := (34, [(0, .ref 135), (1, .int l1), (2, .int l2)], [.int (1 : Int32), .ref 135])) tb_c_192_0 mx_192 1 rfl ?_
  exact go_lv (ls_sc rfl rfl (ls_sc rfl rfl (ls_sc rfl rfl ls_nil))) (sn_Mo_version_34 h)
/-- SpecialiserModel.version(II)I -/
noncomputable def fn_Mo_version (p1 : Int32) (p2 : Int32) (S : wd_S) : Option (Int32 × wd_S) :=
  (wd_c (fn_Mo_within ((p1).toInt64) (0 : Int64) ((((S.1 135 59) - (1 : Int32))).toInt64) S) fun x2 S1 =>
  (if x2 = 0 then
    fn_Mo_version_33 p1 p2 S1
  else
    (wd_c (fn_Mo_within ((p2).toInt64) (0 : Int64) (9 : Int64) S1) fun x25 S24 =>
    (if x25 = 0 then
      fn_Mo_version_33 p1 p2 S24
    else
      fn_Mo_version_34 p1 p2 (0 : Int32) S24))))
set_option maxRecDepth 100000 in
theorem sn_Mo_version {L : Nat} {xs : Nat → Int32} {p1 : Int32} {p2 : Int32} {S : wd_S} {x : Int32} {S' : wd_S} (h : fn_Mo_version p1 p2 S = some (x, S')) : ev_r tb_P L xs (1 + 1) 192 [.ref 135, .int p1, .int p2] (wd_k S) (.inl (some (.int x)), wd_k S') := by
  unfold fn_Mo_version at h
  refine ev_of (Nat.le_of_ble_eq_true rfl) ?_
  show go_r tb_P L xs 1 192 0 [(0, .ref 135), (1, .int p1), (2, .int p2)] [] (wd_k S) (.inl (some (.int x)), wd_k S')
  refine bk_b (q := (5, [(0, .ref 135), (1, .int p1), (2, .int p2)], [.ref 135, .long (0 : Int64), .long ((p1).toInt64), .ref 135])) tb_c_192_0 mx_192 5 rfl ?_
  refine bk_gi tb_c_192_0 rfl rfl (ci := 11) (k := 59) rfl rfl rfl ?_
  refine bk_b (q := (11, [(0, .ref 135), (1, .int p1), (2, .int p2)], [.long ((((S.1 135 59) - (1 : Int32))).toInt64), .long (0 : Int64), .long ((p1).toInt64), .ref 135])) tb_c_192_0 mx_192 3 rfl ?_
  obtain ⟨x2, S1, c3, h⟩ := wd_cx h
  refine bk_ks tb_c_192_0 rfl rfl rfl (by decide) rfl rfl (ev_up (Nat.le_of_ble_eq_true rfl) (sn_Mo_within c3)) ?_
  by_cases g4 : x2 = 0
  · rw [if_pos g4] at h
    refine bk_zt tb_c_192_0 rfl (pc' := 33) rfl (cm_eq_t g4) ?_
    exact go_lv (ls_sc rfl rfl (ls_sc rfl rfl (ls_sc rfl rfl ls_nil))) (sn_Mo_version_33 h)
  · rw [if_neg g4] at h
    refine bk_zf tb_c_192_0 rfl (pc' := 17) rfl (t := 33) rfl (cm_eq_f g4) ?_
    refine bk_b (q := (20, [(0, .ref 135), (1, .int p1), (2, .int p2)], [.long (0 : Int64), .long ((p2).toInt64), .ref 135])) tb_c_192_0 mx_192 3 rfl ?_
    refine bk_c8 tb_c_192_0 rfl rfl (x := (9 : Int64)) rfl ?_
    obtain ⟨x25, S24, c26, h⟩ := wd_cx h
    refine bk_ks tb_c_192_0 rfl rfl rfl (by decide) rfl rfl (ev_up (Nat.le_of_ble_eq_true rfl) (sn_Mo_within c26)) ?_
    by_cases g27 : x25 = 0
    · rw [if_pos g27] at h
      refine bk_zt tb_c_192_0 rfl (pc' := 33) rfl (cm_eq_t g27) ?_
      exact go_lv (ls_sc rfl rfl (ls_sc rfl rfl (ls_sc rfl rfl ls_nil))) (sn_Mo_version_33 h)
    · rw [if_neg g27] at h
      refine bk_zf tb_c_192_0 rfl (pc' := 29) rfl (t := 33) rfl (cm_eq_f g27) ?_
      refine bk_b (q := (34, [(0, .ref 135), (1, .int p1), (2, .int p2)], [.int (0 : Int32), .ref 135])) tb_c_192_0 mx_192 2 rfl ?_
      exact go_lv (ls_sc rfl rfl (ls_sc rfl rfl (ls_sc rfl rfl ls_nil))) (sn_Mo_version_34 h)
theorem mx_194 : mi_mx tb_P 194 = 2 := rfl
noncomputable def fn_Mo_told_118 (s0 : Int32) (S : wd_S) : Option (Int32 × wd_S) :=
  some (s0, S)
set_option maxRecDepth 100000 in
theorem sn_Mo_told_118 {L : Nat} {xs : Nat → Int32} {s0 : Int32} {S : wd_S} {x : Int32} {S' : wd_S} (h : fn_Mo_told_118 s0 S = some (x, S')) : go_r tb_P L xs 1 194 118 [] [.int s0] (wd_k S) (.inl (some (.int x)), wd_k S') := by
  unfold fn_Mo_told_118 at h
  cases h
  exact bk_t tb_c_194_1 rfl rfl
noncomputable def fn_Mo_told_18 (l1 : Int32) (s1 : Int32) (S : wd_S) : Option (Int32 × wd_S) :=
  (wd_b (wd_i S 135 0 s1) fun S5 =>
  (if 0 < (S5.1 135 0) then
    some ((0 : Int32), S5)
  else
    (if l1 = 0 then
      fn_Mo_told_118 (S5.1 135 59) S5
    else
      (if l1 = (1 : Int32) then
        fn_Mo_told_118 (S5.1 135 60) S5
      else
        (if l1 = (2 : Int32) then
          fn_Mo_told_118 (S5.1 135 61) S5
        else
          (if l1 = (3 : Int32) then
            fn_Mo_told_118 (S5.1 135 62) S5
          else
            (if l1 = (4 : Int32) then
              fn_Mo_told_118 (S5.1 135 72) S5
            else
              (if l1 = (5 : Int32) then
                (wd_c (fn_Mo_knownMany  S5) fun x15 S14 =>
                fn_Mo_told_118 x15 S14)
              else
                (if l1 = (6 : Int32) then
                  fn_Mo_told_118 (S5.1 135 95) S5
                else
                  fn_Mo_told_118 (S5.1 135 2) S5)))))))))
set_option maxRecDepth 100000 in
theorem sn_Mo_told_18 {L : Nat} {xs : Nat → Int32} {l1 : Int32} {s1 : Int32} {S : wd_S} {x : Int32} {S' : wd_S} (h : fn_Mo_told_18 l1 s1 S = some (x, S')) : go_r tb_P L xs 1 194 18 [(0, .ref 135), (1, .int l1)] [.int s1, .ref 135] (wd_k S) (.inl (some (.int x)), wd_k S') := by
  unfold fn_Mo_told_18 at h
  obtain ⟨S5, eS5, h⟩ := wd_bx h
  refine bk_pi tb_c_194_0 rfl rfl (ci := 11) (k := 0) rfl rfl rfl rfl ?_
  rw [eS5]
  refine bk_b (q := (22, [(0, .ref 135), (1, .int l1)], [.ref 135])) tb_c_194_0 mx_194 1 rfl ?_
  refine bk_gi tb_c_194_0 rfl rfl (ci := 11) (k := 0) rfl rfl rfl ?_
  by_cases g6 : 0 < (S5.1 135 0)
  · rw [if_pos g6] at h
    refine bk_zf tb_c_194_0 rfl (pc' := 28) rfl (t := 30) rfl (cm_le_f g6) ?_
    refine bk_b (q := (29, [(0, .ref 135), (1, .int l1)], [.int (0 : Int32)])) tb_c_194_0 mx_194 1 rfl ?_
    cases h
    exact bk_t tb_c_194_0 rfl rfl
  · rw [if_neg g6] at h
    refine bk_zt tb_c_194_0 rfl (pc' := 30) rfl (cm_le_t g6) ?_
    refine bk_b (q := (31, [(0, .ref 135), (1, .int l1)], [.int l1])) tb_c_194_0 mx_194 1 rfl ?_
    by_cases g7 : l1 = 0
    · rw [if_pos g7] at h
      refine bk_zf tb_c_194_0 rfl (pc' := 34) rfl (t := 41) rfl (cm_ne_f g7) ?_
      refine bk_b (q := (35, [(0, .ref 135), (1, .int l1)], [.ref 135])) tb_c_194_0 mx_194 1 rfl ?_
      refine bk_gi tb_c_194_0 rfl rfl (ci := 11) (k := 59) rfl rfl rfl ?_
      refine bk_b (q := (118, [(0, .ref 135), (1, .int l1)], [.int (S5.1 135 59)])) tb_c_194_0 mx_194 1 rfl ?_
      exact go_lv ls_nil (sn_Mo_told_118 h)
    · rw [if_neg g7] at h
      refine bk_zt tb_c_194_0 rfl (pc' := 41) rfl (cm_ne_t g7) ?_
      refine bk_b (q := (43, [(0, .ref 135), (1, .int l1)], [.int (1 : Int32), .int l1])) tb_c_194_0 mx_194 2 rfl ?_
      by_cases g8 : l1 = (1 : Int32)
      · rw [if_pos g8] at h
        refine bk_jf tb_c_194_0 rfl (pc' := 46) rfl (t := 53) rfl (cm_ne_f g8) ?_
        refine bk_b (q := (47, [(0, .ref 135), (1, .int l1)], [.ref 135])) tb_c_194_0 mx_194 1 rfl ?_
        refine bk_gi tb_c_194_0 rfl rfl (ci := 11) (k := 60) rfl rfl rfl ?_
        refine bk_b (q := (118, [(0, .ref 135), (1, .int l1)], [.int (S5.1 135 60)])) tb_c_194_0 mx_194 1 rfl ?_
        exact go_lv ls_nil (sn_Mo_told_118 h)
      · rw [if_neg g8] at h
        refine bk_jt tb_c_194_0 rfl (pc' := 53) rfl (cm_ne_t g8) ?_
        refine bk_b (q := (55, [(0, .ref 135), (1, .int l1)], [.int (2 : Int32), .int l1])) tb_c_194_0 mx_194 2 rfl ?_
        by_cases g9 : l1 = (2 : Int32)
        · rw [if_pos g9] at h
          refine bk_jf tb_c_194_0 rfl (pc' := 58) rfl (t := 65) rfl (cm_ne_f g9) ?_
          refine bk_b (q := (59, [(0, .ref 135), (1, .int l1)], [.ref 135])) tb_c_194_0 mx_194 1 rfl ?_
          refine bk_gi tb_c_194_0 rfl rfl (ci := 11) (k := 61) rfl rfl rfl ?_
          refine bk_b (q := (118, [(0, .ref 135), (1, .int l1)], [.int (S5.1 135 61)])) tb_c_194_0 mx_194 1 rfl ?_
          exact go_lv ls_nil (sn_Mo_told_118 h)
        · rw [if_neg g9] at h
          refine bk_jt tb_c_194_0 rfl (pc' := 65) rfl (cm_ne_t g9) ?_
          refine bk_b (q := (67, [(0, .ref 135), (1, .int l1)], [.int (3 : Int32), .int l1])) tb_c_194_0 mx_194 2 rfl ?_
          by_cases g10 : l1 = (3 : Int32)
          · rw [if_pos g10] at h
            refine bk_jf tb_c_194_0 rfl (pc' := 70) rfl (t := 77) rfl (cm_ne_f g10) ?_
            refine bk_b (q := (71, [(0, .ref 135), (1, .int l1)], [.ref 135])) tb_c_194_0 mx_194 1 rfl ?_
            refine bk_gi tb_c_194_0 rfl rfl (ci := 11) (k := 62) rfl rfl rfl ?_
            refine bk_b (q := (118, [(0, .ref 135), (1, .int l1)], [.int (S5.1 135 62)])) tb_c_194_0 mx_194 1 rfl ?_
            exact go_lv ls_nil (sn_Mo_told_118 h)
          · rw [if_neg g10] at h
            refine bk_jt tb_c_194_0 rfl (pc' := 77) rfl (cm_ne_t g10) ?_
            refine bk_b (q := (78, [(0, .ref 135), (1, .int l1)], [.int l1])) tb_c_194_0 mx_194 1 rfl ?_
            refine bk_b (q := (79, [(0, .ref 135), (1, .int l1)], [.int (4 : Int32), .int l1])) tb_c_194_1 mx_194 1 rfl ?_
            by_cases g11 : l1 = (4 : Int32)
            · rw [if_pos g11] at h
              refine bk_jf tb_c_194_1 rfl (pc' := 82) rfl (t := 89) rfl (cm_ne_f g11) ?_
              refine bk_b (q := (83, [(0, .ref 135), (1, .int l1)], [.ref 135])) tb_c_194_1 mx_194 1 rfl ?_
              refine bk_gi tb_c_194_1 rfl rfl (ci := 11) (k := 72) rfl rfl rfl ?_
              refine bk_b (q := (118, [(0, .ref 135), (1, .int l1)], [.int (S5.1 135 72)])) tb_c_194_1 mx_194 1 rfl ?_
              exact go_lv ls_nil (sn_Mo_told_118 h)
            · rw [if_neg g11] at h
              refine bk_jt tb_c_194_1 rfl (pc' := 89) rfl (cm_ne_t g11) ?_
              refine bk_b (q := (91, [(0, .ref 135), (1, .int l1)], [.int (5 : Int32), .int l1])) tb_c_194_1 mx_194 2 rfl ?_
              by_cases g12 : l1 = (5 : Int32)
              · rw [if_pos g12] at h
                refine bk_jf tb_c_194_1 rfl (pc' := 94) rfl (t := 101) rfl (cm_ne_f g12) ?_
                refine bk_b (q := (95, [(0, .ref 135), (1, .int l1)], [.ref 135])) tb_c_194_1 mx_194 1 rfl ?_
                obtain ⟨x15, S14, c16, h⟩ := wd_cx h
                refine bk_kv tb_c_194_1 rfl rfl rfl rfl rfl (ci := 11) rfl rfl (ev_up (Nat.le_of_ble_eq_true rfl) (sn_Mo_knownMany c16)) ?_
                refine bk_b (q := (118, [(0, .ref 135), (1, .int l1)], [.int x15])) tb_c_194_1 mx_194 1 rfl ?_
                exact go_lv ls_nil (sn_Mo_told_118 h)
              · rw [if_neg g12] at h
                refine bk_jt tb_c_194_1 rfl (pc' := 101) rfl (cm_ne_t g12) ?_
                refine bk_b (q := (104, [(0, .ref 135), (1, .int l1)], [.int (6 : Int32), .int l1])) tb_c_194_1 mx_194 2 rfl ?_
                by_cases g13 : l1 = (6 : Int32)
                · rw [if_pos g13] at h
                  refine bk_jf tb_c_194_1 rfl (pc' := 107) rfl (t := 114) rfl (cm_ne_f g13) ?_
                  refine bk_b (q := (108, [(0, .ref 135), (1, .int l1)], [.ref 135])) tb_c_194_1 mx_194 1 rfl ?_
                  refine bk_gi tb_c_194_1 rfl rfl (ci := 11) (k := 95) rfl rfl rfl ?_
                  refine bk_b (q := (118, [(0, .ref 135), (1, .int l1)], [.int (S5.1 135 95)])) tb_c_194_1 mx_194 1 rfl ?_
                  exact go_lv ls_nil (sn_Mo_told_118 h)
                · rw [if_neg g13] at h
                  refine bk_jt tb_c_194_1 rfl (pc' := 114) rfl (cm_ne_t g13) ?_
                  refine bk_b (q := (115, [(0, .ref 135), (1, .int l1)], [.ref 135])) tb_c_194_1 mx_194 1 rfl ?_
                  refine bk_gi tb_c_194_1 rfl rfl (ci := 11) (k := 2) rfl rfl rfl ?_
                  exact go_lv ls_nil (sn_Mo_told_118 h)
/-- SpecialiserModel.told(I)I -/
noncomputable def fn_Mo_told (p1 : Int32) (S : wd_S) : Option (Int32 × wd_S) :=
  (wd_c (fn_Mo_within ((p1).toInt64) (0 : Int64) (7 : Int64) S) fun x2 S1 =>
  (if x2 = 0 then
    fn_Mo_told_18 p1 (1 : Int32) S1
  else
    fn_Mo_told_18 p1 (0 : Int32) S1))
set_option maxRecDepth 100000 in
theorem sn_Mo_told {L : Nat} {xs : Nat → Int32} {p1 : Int32} {S : wd_S} {x : Int32} {S' : wd_S} (h : fn_Mo_told p1 S = some (x, S')) : ev_r tb_P L xs (1 + 1) 194 [.ref 135, .int p1] (wd_k S) (.inl (some (.int x)), wd_k S') := by
  unfold fn_Mo_told at h
  refine ev_of (Nat.le_of_ble_eq_true rfl) ?_
  show go_r tb_P L xs 1 194 0 [(0, .ref 135), (1, .int p1)] [] (wd_k S) (.inl (some (.int x)), wd_k S')
  refine bk_b (q := (4, [(0, .ref 135), (1, .int p1)], [.long (0 : Int64), .long ((p1).toInt64), .ref 135])) tb_c_194_0 mx_194 4 rfl ?_
  refine bk_c8 tb_c_194_0 rfl rfl (x := (7 : Int64)) rfl ?_
  obtain ⟨x2, S1, c3, h⟩ := wd_cx h
  refine bk_ks tb_c_194_0 rfl rfl rfl (by decide) rfl rfl (ev_up (Nat.le_of_ble_eq_true rfl) (sn_Mo_within c3)) ?_
  by_cases g4 : x2 = 0
  · rw [if_pos g4] at h
    refine bk_zt tb_c_194_0 rfl (pc' := 17) rfl (cm_eq_t g4) ?_
    refine bk_b (q := (18, [(0, .ref 135), (1, .int p1)], [.int (1 : Int32), .ref 135])) tb_c_194_0 mx_194 1 rfl ?_
    exact go_lv (ls_sc rfl rfl (ls_sc rfl rfl ls_nil)) (sn_Mo_told_18 h)
  · rw [if_neg g4] at h
    refine bk_zf tb_c_194_0 rfl (pc' := 13) rfl (t := 17) rfl (cm_eq_f g4) ?_
    refine bk_b (q := (18, [(0, .ref 135), (1, .int p1)], [.int (0 : Int32), .ref 135])) tb_c_194_0 mx_194 2 rfl ?_
    exact go_lv (ls_sc rfl rfl (ls_sc rfl rfl ls_nil)) (sn_Mo_told_18 h)
