/-! Methods as functions: printed by wip/whole/gen_fn.py. -/
theorem mx_182 : mi_mx tb_P 182 = 3 := rfl
noncomputable def fn_Mo_later_40 (S : wd_S) : Option wd_S :=
  some S
set_option maxRecDepth 100000 in
theorem sn_Mo_later_40 {L : Nat} {xs : Nat → Int32} {S : wd_S} {S' : wd_S} (h : fn_Mo_later_40  S = some S') : go_r tb_P L xs 0 182 40 [] [] (wd_k S) (.inl none, wd_k S') := by
  unfold fn_Mo_later_40 at h
  cases h
  exact bk_t tb_c_182_0 rfl rfl
/-- SpecialiserModel.later(II)V -/
noncomputable def fn_Mo_later (p1 : Int32) (p2 : Int32) (S : wd_S) : Option wd_S :=
  (if (S.1 135 76) < (4000 : Int32) then
    (if (S.1 135 76) < 0 ∨ 4000 ≤ (S.1 135 76).toNatClampNeg then none else
    (wd_b (wd_i S 165 (S.1 135 76).toNatClampNeg p1) fun S3 =>
    (if (S3.1 135 76) < 0 ∨ 4000 ≤ (S3.1 135 76).toNatClampNeg then none else
    (wd_b (wd_i S3 166 (S3.1 135 76).toNatClampNeg p2) fun S5 =>
    (wd_b (wd_i S5 135 76 ((S5.1 135 76) + (1 : Int32))) fun S6 =>
    fn_Mo_later_40  S6)))))
  else
    fn_Mo_later_40  S)
set_option maxRecDepth 100000 in
theorem sn_Mo_later {L : Nat} {xs : Nat → Int32} {p1 : Int32} {p2 : Int32} {S : wd_S} {S' : wd_S} (h : fn_Mo_later p1 p2 S = some S') : ev_r tb_P L xs (0 + 1) 182 [.ref 135, .int p1, .int p2] (wd_k S) (.inl none, wd_k S') := by
  unfold fn_Mo_later at h
  refine ev_of (Nat.le_of_ble_eq_true rfl) ?_
  show go_r tb_P L xs 0 182 0 [(0, .ref 135), (1, .int p1), (2, .int p2)] [] (wd_k S) (.inl none, wd_k S')
  refine bk_b (q := (1, [(0, .ref 135), (1, .int p1), (2, .int p2)], [.ref 135])) tb_c_182_0 mx_182 1 rfl ?_
  refine bk_gi tb_c_182_0 rfl rfl (ci := 11) (k := 76) rfl rfl rfl ?_
  refine bk_b (q := (7, [(0, .ref 135), (1, .int p1), (2, .int p2)], [.int (4000 : Int32), .int (S.1 135 76)])) tb_c_182_0 mx_182 1 rfl ?_
  by_cases g1 : (S.1 135 76) < (4000 : Int32)
  · rw [if_pos g1] at h
    refine bk_jf tb_c_182_0 rfl (pc' := 10) rfl (t := 40) rfl (cm_ge_f g1) ?_
    refine bk_b (q := (11, [(0, .ref 135), (1, .int p1), (2, .int p2)], [.ref 135])) tb_c_182_0 mx_182 1 rfl ?_
    refine bk_gc tb_c_182_0 rfl rfl (ci := 11) (k := 74) rfl rfl rfl ?_
    refine bk_b (q := (15, [(0, .ref 135), (1, .int p1), (2, .int p2)], [.ref 135, .ref 165])) tb_c_182_0 mx_182 1 rfl ?_
    refine bk_gi tb_c_182_0 rfl rfl (ci := 11) (k := 76) rfl rfl rfl ?_
    refine bk_b (q := (19, [(0, .ref 135), (1, .int p1), (2, .int p2)], [.int p1, .int (S.1 135 76), .ref 165])) tb_c_182_0 mx_182 1 rfl ?_
    by_cases g2 : (S.1 135 76) < 0 ∨ 4000 ≤ (S.1 135 76).toNatClampNeg
    · rw [if_pos g2] at h; cases h
    · rw [if_neg g2] at h
      obtain ⟨S3, eS3, h⟩ := wd_bx h
      refine bk_s4 tb_c_182_0 rfl rfl rfl g2 ?_
      rw [eS3]
      refine bk_b (q := (21, [(0, .ref 135), (1, .int p1), (2, .int p2)], [.ref 135])) tb_c_182_0 mx_182 1 rfl ?_
      refine bk_gc tb_c_182_0 rfl rfl (ci := 11) (k := 75) rfl rfl rfl ?_
      refine bk_b (q := (25, [(0, .ref 135), (1, .int p1), (2, .int p2)], [.ref 135, .ref 166])) tb_c_182_0 mx_182 1 rfl ?_
      refine bk_gi tb_c_182_0 rfl rfl (ci := 11) (k := 76) rfl rfl rfl ?_
      refine bk_b (q := (29, [(0, .ref 135), (1, .int p1), (2, .int p2)], [.int p2, .int (S3.1 135 76), .ref 166])) tb_c_182_0 mx_182 1 rfl ?_
      by_cases g4 : (S3.1 135 76) < 0 ∨ 4000 ≤ (S3.1 135 76).toNatClampNeg
      · rw [if_pos g4] at h; cases h
      · rw [if_neg g4] at h
        obtain ⟨S5, eS5, h⟩ := wd_bx h
        refine bk_s4 tb_c_182_0 rfl rfl rfl g4 ?_
        rw [eS5]
        refine bk_b (q := (32, [(0, .ref 135), (1, .int p1), (2, .int p2)], [.ref 135, .ref 135])) tb_c_182_0 mx_182 2 rfl ?_
        refine bk_gi tb_c_182_0 rfl rfl (ci := 11) (k := 76) rfl rfl rfl ?_
        refine bk_b (q := (37, [(0, .ref 135), (1, .int p1), (2, .int p2)], [.int ((S5.1 135 76) + (1 : Int32)), .ref 135])) tb_c_182_0 mx_182 2 rfl ?_
        obtain ⟨S6, eS6, h⟩ := wd_bx h
        refine bk_pi tb_c_182_0 rfl rfl (ci := 11) (k := 76) rfl rfl rfl rfl ?_
        rw [eS6]
        exact go_lv ls_nil (sn_Mo_later_40 h)
  · rw [if_neg g1] at h
    refine bk_jt tb_c_182_0 rfl (pc' := 40) rfl (cm_ge_t g1) ?_
    exact go_lv ls_nil (sn_Mo_later_40 h)
theorem mx_185 : mi_mx tb_P 185 = 3 := rfl
/-- SpecialiserModel.gives(ZI)V -/
noncomputable def fn_Mo_gives (p1 : Int32) (p2 : Int32) (S : wd_S) : Option wd_S :=
  (if ((S.1 135 79) < 0 ∨ 4000 ≤ (S.1 135 79).toNatClampNeg) ∨ ¬mi_fit .boolean (.int p1) = true then none else
  (wd_b (wd_i S 167 (S.1 135 79).toNatClampNeg p1) fun S2 =>
  (if (S2.1 135 79) < 0 ∨ 4000 ≤ (S2.1 135 79).toNatClampNeg then none else
  (wd_b (wd_i S2 168 (S2.1 135 79).toNatClampNeg p2) fun S4 =>
  (wd_b (wd_i S4 135 79 ((S4.1 135 79) + (1 : Int32))) fun S5 =>
  some S5)))))
set_option maxRecDepth 100000 in
theorem sn_Mo_gives {L : Nat} {xs : Nat → Int32} {p1 : Int32} {p2 : Int32} {S : wd_S} {S' : wd_S} (h : fn_Mo_gives p1 p2 S = some S') : ev_r tb_P L xs (0 + 1) 185 [.ref 135, .int p1, .int p2] (wd_k S) (.inl none, wd_k S') := by
  unfold fn_Mo_gives at h
  refine ev_of (Nat.le_of_ble_eq_true rfl) ?_
  show go_r tb_P L xs 0 185 0 [(0, .ref 135), (1, .int p1), (2, .int p2)] [] (wd_k S) (.inl none, wd_k S')
  refine bk_b (q := (1, [(0, .ref 135), (1, .int p1), (2, .int p2)], [.ref 135])) tb_c_185_0 mx_185 1 rfl ?_
  refine bk_gc tb_c_185_0 rfl rfl (ci := 11) (k := 77) rfl rfl rfl ?_
  refine bk_b (q := (5, [(0, .ref 135), (1, .int p1), (2, .int p2)], [.ref 135, .ref 167])) tb_c_185_0 mx_185 1 rfl ?_
  refine bk_gi tb_c_185_0 rfl rfl (ci := 11) (k := 79) rfl rfl rfl ?_
  refine bk_b (q := (9, [(0, .ref 135), (1, .int p1), (2, .int p2)], [.int p1, .int (S.1 135 79), .ref 167])) tb_c_185_0 mx_185 1 rfl ?_
  by_cases g1 : ((S.1 135 79) < 0 ∨ 4000 ≤ (S.1 135 79).toNatClampNeg) ∨ ¬mi_fit .boolean (.int p1) = true
  · rw [if_pos g1] at h; cases h
  · rw [if_neg g1] at h
    obtain ⟨S2, eS2, h⟩ := wd_bx h
    refine bk_s1 tb_c_185_0 rfl rfl rfl (fun q => g1 (Or.inl q)) (Decidable.not_not.mp (fun q => g1 (Or.inr q))) ?_
    rw [eS2]
    refine bk_b (q := (11, [(0, .ref 135), (1, .int p1), (2, .int p2)], [.ref 135])) tb_c_185_0 mx_185 1 rfl ?_
    refine bk_gc tb_c_185_0 rfl rfl (ci := 11) (k := 78) rfl rfl rfl ?_
    refine bk_b (q := (15, [(0, .ref 135), (1, .int p1), (2, .int p2)], [.ref 135, .ref 168])) tb_c_185_0 mx_185 1 rfl ?_
    refine bk_gi tb_c_185_0 rfl rfl (ci := 11) (k := 79) rfl rfl rfl ?_
    refine bk_b (q := (19, [(0, .ref 135), (1, .int p1), (2, .int p2)], [.int p2, .int (S2.1 135 79), .ref 168])) tb_c_185_0 mx_185 1 rfl ?_
    by_cases g3 : (S2.1 135 79) < 0 ∨ 4000 ≤ (S2.1 135 79).toNatClampNeg
    · rw [if_pos g3] at h; cases h
    · rw [if_neg g3] at h
      obtain ⟨S4, eS4, h⟩ := wd_bx h
      refine bk_s4 tb_c_185_0 rfl rfl rfl g3 ?_
      rw [eS4]
      refine bk_b (q := (22, [(0, .ref 135), (1, .int p1), (2, .int p2)], [.ref 135, .ref 135])) tb_c_185_0 mx_185 2 rfl ?_
      refine bk_gi tb_c_185_0 rfl rfl (ci := 11) (k := 79) rfl rfl rfl ?_
      refine bk_b (q := (27, [(0, .ref 135), (1, .int p1), (2, .int p2)], [.int ((S4.1 135 79) + (1 : Int32)), .ref 135])) tb_c_185_0 mx_185 2 rfl ?_
      obtain ⟨S5, eS5, h⟩ := wd_bx h
      refine bk_pi tb_c_185_0 rfl rfl (ci := 11) (k := 79) rfl rfl rfl rfl ?_
      rw [eS5]
      cases h
      exact bk_t tb_c_185_0 rfl rfl
theorem mx_186 : mi_mx tb_P 186 = 3 := rfl
/-- SpecialiserModel.fresh(I)I -/
noncomputable def fn_Mo_fresh (p1 : Int32) (S : wd_S) : Option (Int32 × wd_S) :=
  (if (S.1 135 66) < (6000 : Int32) then
    (wd_b (wd_i S 135 66 ((S.1 135 66) + (1 : Int32))) fun S2 =>
    (if (((3004 : Int32) + ((6002 : Int32) * (S.1 135 64))) + (S.1 135 66)) < 0 ∨ 15010 ≤ (((3004 : Int32) + ((6002 : Int32) * (S.1 135 64))) + (S.1 135 66)).toNatClampNeg then none else
    (wd_b (wd_i S2 143 (((3004 : Int32) + ((6002 : Int32) * (S.1 135 64))) + (S.1 135 66)).toNatClampNeg p1) fun S4 =>
    some ((((3004 : Int32) + ((6002 : Int32) * (S.1 135 64))) + (S.1 135 66)), S4))))
  else
    (wd_b (wd_i S 135 73 (1 : Int32)) fun S5 =>
    some ((((3004 : Int32) + ((6002 : Int32) * (S5.1 135 64))) + (6000 : Int32)), S5)))
set_option maxRecDepth 100000 in
theorem sn_Mo_fresh {L : Nat} {xs : Nat → Int32} {p1 : Int32} {S : wd_S} {x : Int32} {S' : wd_S} (h : fn_Mo_fresh p1 S = some (x, S')) : ev_r tb_P L xs (0 + 1) 186 [.ref 135, .int p1] (wd_k S) (.inl (some (.int x)), wd_k S') := by
  unfold fn_Mo_fresh at h
  refine ev_of (Nat.le_of_ble_eq_true rfl) ?_
  show go_r tb_P L xs 0 186 0 [(0, .ref 135), (1, .int p1)] [] (wd_k S) (.inl (some (.int x)), wd_k S')
  refine bk_b (q := (7, [(0, .ref 135), (1, .int p1)], [.ref 135, .int (6002 : Int32), .int (3004 : Int32)])) tb_c_186_0 mx_186 3 rfl ?_
  refine bk_gi tb_c_186_0 rfl rfl (ci := 11) (k := 64) rfl rfl rfl ?_
  refine bk_b (q := (13, [(0, .ref 135), (1, .int p1)], [.ref 135, .int ((3004 : Int32) + ((6002 : Int32) * (S.1 135 64)))])) tb_c_186_0 mx_186 3 rfl ?_
  refine bk_gi tb_c_186_0 rfl rfl (ci := 11) (k := 66) rfl rfl rfl ?_
  refine bk_b (q := (19, [(2, .int (((3004 : Int32) + ((6002 : Int32) * (S.1 135 64))) + (S.1 135 66))), (0, .ref 135), (1, .int p1)], [.ref 135])) tb_c_186_0 mx_186 3 rfl ?_
  refine bk_gi tb_c_186_0 rfl rfl (ci := 11) (k := 66) rfl rfl rfl ?_
  refine bk_b (q := (25, [(2, .int (((3004 : Int32) + ((6002 : Int32) * (S.1 135 64))) + (S.1 135 66))), (0, .ref 135), (1, .int p1)], [.int (6000 : Int32), .int (S.1 135 66)])) tb_c_186_0 mx_186 1 rfl ?_
  by_cases g1 : (S.1 135 66) < (6000 : Int32)
  · rw [if_pos g1] at h
    refine bk_jt tb_c_186_0 rfl (pc' := 50) rfl (cm_lt_t g1) ?_
    refine bk_b (q := (52, [(2, .int (((3004 : Int32) + ((6002 : Int32) * (S.1 135 64))) + (S.1 135 66))), (0, .ref 135), (1, .int p1)], [.ref 135, .ref 135])) tb_c_186_0 mx_186 2 rfl ?_
    refine bk_gi tb_c_186_0 rfl rfl (ci := 11) (k := 66) rfl rfl rfl ?_
    refine bk_b (q := (57, [(2, .int (((3004 : Int32) + ((6002 : Int32) * (S.1 135 64))) + (S.1 135 66))), (0, .ref 135), (1, .int p1)], [.int ((S.1 135 66) + (1 : Int32)), .ref 135])) tb_c_186_0 mx_186 2 rfl ?_
    obtain ⟨S2, eS2, h⟩ := wd_bx h
    refine bk_pi tb_c_186_0 rfl rfl (ci := 11) (k := 66) rfl rfl rfl rfl ?_
    rw [eS2]
    refine bk_b (q := (61, [(2, .int (((3004 : Int32) + ((6002 : Int32) * (S.1 135 64))) + (S.1 135 66))), (0, .ref 135), (1, .int p1)], [.ref 135])) tb_c_186_0 mx_186 1 rfl ?_
    refine bk_gc tb_c_186_0 rfl rfl (ci := 11) (k := 17) rfl rfl rfl ?_
    refine bk_b (q := (66, [(2, .int (((3004 : Int32) + ((6002 : Int32) * (S.1 135 64))) + (S.1 135 66))), (0, .ref 135), (1, .int p1)], [.int p1, .int (((3004 : Int32) + ((6002 : Int32) * (S.1 135 64))) + (S.1 135 66)), .ref 143])) tb_c_186_0 mx_186 2 rfl ?_
    by_cases g3 : (((3004 : Int32) + ((6002 : Int32) * (S.1 135 64))) + (S.1 135 66)) < 0 ∨ 15010 ≤ (((3004 : Int32) + ((6002 : Int32) * (S.1 135 64))) + (S.1 135 66)).toNatClampNeg
    · rw [if_pos g3] at h; cases h
    · rw [if_neg g3] at h
      obtain ⟨S4, eS4, h⟩ := wd_bx h
      refine bk_s4 tb_c_186_0 rfl rfl rfl g3 ?_
      rw [eS4]
      refine bk_b (q := (68, [(2, .int (((3004 : Int32) + ((6002 : Int32) * (S.1 135 64))) + (S.1 135 66))), (0, .ref 135), (1, .int p1)], [.int (((3004 : Int32) + ((6002 : Int32) * (S.1 135 64))) + (S.1 135 66))])) tb_c_186_0 mx_186 1 rfl ?_
      cases h
      exact bk_t tb_c_186_0 rfl rfl
  · rw [if_neg g1] at h
    refine bk_jf tb_c_186_0 rfl (pc' := 28) rfl (t := 50) rfl (cm_lt_f g1) ?_
    refine bk_b (q := (30, [(2, .int (((3004 : Int32) + ((6002 : Int32) * (S.1 135 64))) + (S.1 135 66))), (0, .ref 135), (1, .int p1)], [.int (1 : Int32), .ref 135])) tb_c_186_0 mx_186 2 rfl ?_
    obtain ⟨S5, eS5, h⟩ := wd_bx h
    refine bk_pi tb_c_186_0 rfl rfl (ci := 11) (k := 73) rfl rfl rfl rfl ?_
    rw [eS5]
    refine bk_b (q := (40, [(2, .int (((3004 : Int32) + ((6002 : Int32) * (S.1 135 64))) + (S.1 135 66))), (0, .ref 135), (1, .int p1)], [.ref 135, .int (6002 : Int32), .int (3004 : Int32)])) tb_c_186_0 mx_186 3 rfl ?_
    refine bk_gi tb_c_186_0 rfl rfl (ci := 11) (k := 64) rfl rfl rfl ?_
    refine bk_b (q := (49, [(2, .int (((3004 : Int32) + ((6002 : Int32) * (S.1 135 64))) + (S.1 135 66))), (0, .ref 135), (1, .int p1)], [.int (((3004 : Int32) + ((6002 : Int32) * (S5.1 135 64))) + (6000 : Int32))])) tb_c_186_0 mx_186 4 rfl ?_
    cases h
    exact bk_t tb_c_186_0 rfl rfl
theorem mx_184 : mi_mx tb_P 184 = 3 := rfl
noncomputable def fn_Mo_onEv_272 (S : wd_S) : Option wd_S :=
  some S
set_option maxRecDepth 100000 in
theorem sn_Mo_onEv_272 {L : Nat} {xs : Nat → Int32} {S : wd_S} {S' : wd_S} (h : fn_Mo_onEv_272  S = some S') : go_r tb_P L xs 1 184 272 [] [] (wd_k S) (.inl none, wd_k S') := by
  unfold fn_Mo_onEv_272 at h
  cases h
  exact bk_t tb_c_184_3 rfl rfl
noncomputable def fn_Mo_onEv_244 : Nat → Int32 → Int32 → wd_S → Option wd_S
  | 0, _, _, _ => none
  | n + 1, l1, l2, S =>
    (if l2 < 0 then
      fn_Mo_onEv_272  S
    else
      (if l1 < 0 ∨ 15010 ≤ l1.toNatClampNeg then none else
      (if ((S.1 144 l1.toNatClampNeg) + l2) < 0 ∨ 15010 ≤ ((S.1 144 l1.toNatClampNeg) + l2).toNatClampNeg then none else
      (wd_d (fn_Mo_later (1 : Int32) (S.1 149 ((S.1 144 l1.toNatClampNeg) + l2).toNatClampNeg) S) fun S40 =>
      fn_Mo_onEv_244 n l1 (l2 + (-1 : Int32)) S40))))
set_option maxRecDepth 100000 in
theorem sn_Mo_onEv_244 {L : Nat} {xs : Nat → Int32} : ∀ (n : Nat) {l1 : Int32} {l2 : Int32} {S : wd_S} {S' : wd_S}, fn_Mo_onEv_244 n l1 l2 S = some S' → go_r tb_P L xs 1 184 244 [(0, .ref 135), (1, .int l1), (2, .int l2)] [] (wd_k S) (.inl none, wd_k S') := by
  intro n
  induction n with
  | zero => intro l1 l2 S S'  h; cases h
  | succ n ih =>
    intro l1 l2 S S'  h
    rw [fn_Mo_onEv_244] at h
    refine bk_b (q := (245, [(0, .ref 135), (1, .int l1), (2, .int l2)], [.int l2])) tb_c_184_3 mx_184 1 rfl ?_
    by_cases g37 : l2 < 0
    · rw [if_pos g37] at h
      refine bk_zt tb_c_184_3 rfl (pc' := 272) rfl (cm_lt_t g37) ?_
      exact go_lv ls_nil (sn_Mo_onEv_272 h)
    · rw [if_neg g37] at h
      refine bk_zf tb_c_184_3 rfl (pc' := 248) rfl (t := 272) rfl (cm_lt_f g37) ?_
      refine bk_b (q := (251, [(0, .ref 135), (1, .int l1), (2, .int l2)], [.ref 135, .int (1 : Int32), .ref 135])) tb_c_184_3 mx_184 3 rfl ?_
      refine bk_gc tb_c_184_3 rfl rfl (ci := 11) (k := 23) rfl rfl rfl ?_
      refine bk_b (q := (255, [(0, .ref 135), (1, .int l1), (2, .int l2)], [.ref 135, .ref 149, .int (1 : Int32), .ref 135])) tb_c_184_3 mx_184 1 rfl ?_
      refine bk_gc tb_c_184_3 rfl rfl (ci := 11) (k := 18) rfl rfl rfl ?_
      refine bk_b (q := (259, [(0, .ref 135), (1, .int l1), (2, .int l2)], [.int l1, .ref 144, .ref 149, .int (1 : Int32), .ref 135])) tb_c_184_3 mx_184 1 rfl ?_
      by_cases g38 : l1 < 0 ∨ 15010 ≤ l1.toNatClampNeg
      · rw [if_pos g38] at h; cases h
      · rw [if_neg g38] at h
        refine bk_a4 tb_c_184_3 rfl rfl rfl g38 ?_
        refine bk_b (q := (262, [(0, .ref 135), (1, .int l1), (2, .int l2)], [.int ((S.1 144 l1.toNatClampNeg) + l2), .ref 149, .int (1 : Int32), .ref 135])) tb_c_184_3 mx_184 2 rfl ?_
        by_cases g39 : ((S.1 144 l1.toNatClampNeg) + l2) < 0 ∨ 15010 ≤ ((S.1 144 l1.toNatClampNeg) + l2).toNatClampNeg
        · rw [if_pos g39] at h; cases h
        · rw [if_neg g39] at h
          refine bk_a4 tb_c_184_3 rfl rfl rfl g39 ?_
          obtain ⟨S40, c42, h⟩ := wd_dx h
          refine bk_kv tb_c_184_3 rfl rfl rfl rfl rfl (ci := 11) rfl rfl (ev_up (Nat.le_of_ble_eq_true rfl) (sn_Mo_later c42)) ?_
          refine bk_b (q := (244, [(2, .int (l2 + (-1 : Int32))), (0, .ref 135), (1, .int l1)], [])) tb_c_184_3 mx_184 2 rfl ?_
          exact go_lv (ls_sc rfl rfl (ls_sc rfl rfl (ls_sc rfl rfl ls_nil))) (ih h)
/-- SpecialiserModel.onEv(I)V -/
noncomputable def fn_Mo_onEv (p1 : Int32) (S : wd_S) : Option wd_S :=
  (if (S.1 135 71) = (1000 : Int32) then
    (wd_b (wd_i S 135 73 (1 : Int32)) fun S76 =>
    some S76)
  else
    (wd_b (wd_i S 135 71 ((S.1 135 71) + (1 : Int32))) fun S2 =>
    (if p1 < 0 ∨ 15010 ≤ p1.toNatClampNeg then none else
    (if (S2.1 143 p1.toNatClampNeg) = (1 : Int32) then
      (wd_d (fn_Mo_later (2 : Int32) p1 S2) fun S5 =>
      (if p1 < 0 ∨ 15010 ≤ p1.toNatClampNeg then none else
      (wd_d (fn_Mo_later (1 : Int32) (S5.1 145 p1.toNatClampNeg) S5) fun S9 =>
      (if p1 < 0 ∨ 15010 ≤ p1.toNatClampNeg then none else
      (wd_d (fn_Mo_later (1 : Int32) (S9.1 144 p1.toNatClampNeg) S9) fun S13 =>
      fn_Mo_onEv_272  S13)))))
    else
    (if (S2.1 143 p1.toNatClampNeg) = (2 : Int32) then
      (wd_d (fn_Mo_later (3 : Int32) p1 S2) fun S17 =>
      (if p1 < 0 ∨ 15010 ≤ p1.toNatClampNeg then none else
      (wd_d (fn_Mo_later (1 : Int32) (S17.1 144 p1.toNatClampNeg) S17) fun S21 =>
      fn_Mo_onEv_272  S21)))
    else
    (if (S2.1 143 p1.toNatClampNeg) = (3 : Int32) then
      (wd_d (fn_Mo_later (6 : Int32) p1 S2) fun S25 =>
      (if p1 < 0 ∨ 15010 ≤ p1.toNatClampNeg then none else
      (wd_d (fn_Mo_later (1 : Int32) (S25.1 144 p1.toNatClampNeg) S25) fun S29 =>
      fn_Mo_onEv_272  S29)))
    else
    (if (S2.1 143 p1.toNatClampNeg) = (4 : Int32) then
      (wd_d (fn_Mo_later (7 : Int32) p1 S2) fun S33 =>
      (if p1 < 0 ∨ 15010 ≤ p1.toNatClampNeg then none else
      fn_Mo_onEv_244 wd_F p1 ((S33.1 145 p1.toNatClampNeg) - (1 : Int32)) S33))
    else
    (if (S2.1 143 p1.toNatClampNeg) = (5 : Int32) then
      (if p1 < 0 ∨ 15010 ≤ p1.toNatClampNeg then none else
      (wd_d (fn_Mo_gives (1 : Int32) (S2.1 144 p1.toNatClampNeg) S2) fun S45 =>
      fn_Mo_onEv_272  S45))
    else
    (if (S2.1 143 p1.toNatClampNeg) = (6 : Int32) then
      (wd_d (fn_Mo_later (7 : Int32) p1 S2) fun S49 =>
      (if p1 < 0 ∨ 15010 ≤ p1.toNatClampNeg then none else
      fn_Mo_onEv_244 wd_F p1 ((S49.1 145 p1.toNatClampNeg) - (1 : Int32)) S49))
    else
    (if (S2.1 143 p1.toNatClampNeg) = (7 : Int32) then
      (if p1 < 0 ∨ 15010 ≤ p1.toNatClampNeg then none else
      (if (S2.1 144 p1.toNatClampNeg) < 0 ∨ 16 ≤ (S2.1 144 p1.toNatClampNeg).toNatClampNeg then none else
      (if (S2.1 169 (S2.1 144 p1.toNatClampNeg).toNatClampNeg) = 0 then
        (wd_c (fn_Mo_fresh (7 : Int32) S2) fun x58 S57 =>
        (if p1 < 0 ∨ 15010 ≤ p1.toNatClampNeg then none else
        (if (S57.1 144 p1.toNatClampNeg) < 0 ∨ 16 ≤ (S57.1 144 p1.toNatClampNeg).toNatClampNeg then none else
        (if x58 < 0 ∨ 15010 ≤ x58.toNatClampNeg then none else
        (wd_b (wd_i S57 144 x58.toNatClampNeg (S57.1 170 (S57.1 144 p1.toNatClampNeg).toNatClampNeg)) fun S63 =>
        (wd_d (fn_Mo_gives (0 : Int32) x58 S63) fun S64 =>
        fn_Mo_onEv_272  S64))))))
      else
        (if p1 < 0 ∨ 15010 ≤ p1.toNatClampNeg then none else
        (if (S2.1 144 p1.toNatClampNeg) < 0 ∨ 16 ≤ (S2.1 144 p1.toNatClampNeg).toNatClampNeg then none else
        (wd_d (fn_Mo_gives (1 : Int32) (S2.1 170 (S2.1 144 p1.toNatClampNeg).toNatClampNeg) S2) fun S69 =>
        fn_Mo_onEv_272  S69))))))
    else
    (wd_d (fn_Mo_later (7 : Int32) p1 S2) fun S72 =>
    (if p1 < 0 ∨ 15010 ≤ p1.toNatClampNeg then none else
    fn_Mo_onEv_244 wd_F p1 ((S72.1 145 p1.toNatClampNeg) - (1 : Int32)) S72))))))))))))
set_option maxRecDepth 100000 in
theorem sn_Mo_onEv {L : Nat} {xs : Nat → Int32} {p1 : Int32} {S : wd_S} {S' : wd_S} (h : fn_Mo_onEv p1 S = some S') : ev_r tb_P L xs (1 + 1) 184 [.ref 135, .int p1] (wd_k S) (.inl none, wd_k S') := by
  unfold fn_Mo_onEv at h
  refine ev_of (Nat.le_of_ble_eq_true rfl) ?_
  show go_r tb_P L xs 1 184 0 [(0, .ref 135), (1, .int p1)] [] (wd_k S) (.inl none, wd_k S')
  refine bk_b (q := (1, [(0, .ref 135), (1, .int p1)], [.ref 135])) tb_c_184_0 mx_184 1 rfl ?_
  refine bk_gi tb_c_184_0 rfl rfl (ci := 11) (k := 71) rfl rfl rfl ?_
  refine bk_b (q := (7, [(0, .ref 135), (1, .int p1)], [.int (1000 : Int32), .int (S.1 135 71)])) tb_c_184_0 mx_184 1 rfl ?_
  by_cases g1 : (S.1 135 71) = (1000 : Int32)
  · rw [if_pos g1] at h
    refine bk_jf tb_c_184_0 rfl (pc' := 10) rfl (t := 16) rfl (cm_ne_f g1) ?_
    refine bk_b (q := (12, [(0, .ref 135), (1, .int p1)], [.int (1 : Int32), .ref 135])) tb_c_184_0 mx_184 2 rfl ?_
    obtain ⟨S76, eS76, h⟩ := wd_bx h
    refine bk_pi tb_c_184_0 rfl rfl (ci := 11) (k := 73) rfl rfl rfl rfl ?_
    rw [eS76]
    cases h
    exact bk_t tb_c_184_0 rfl rfl
  · rw [if_neg g1] at h
    refine bk_jt tb_c_184_0 rfl (pc' := 16) rfl (cm_ne_t g1) ?_
    refine bk_b (q := (18, [(0, .ref 135), (1, .int p1)], [.ref 135, .ref 135])) tb_c_184_0 mx_184 2 rfl ?_
    refine bk_gi tb_c_184_0 rfl rfl (ci := 11) (k := 71) rfl rfl rfl ?_
    refine bk_b (q := (23, [(0, .ref 135), (1, .int p1)], [.int ((S.1 135 71) + (1 : Int32)), .ref 135])) tb_c_184_0 mx_184 2 rfl ?_
    obtain ⟨S2, eS2, h⟩ := wd_bx h
    refine bk_pi tb_c_184_0 rfl rfl (ci := 11) (k := 71) rfl rfl rfl rfl ?_
    rw [eS2]
    refine bk_b (q := (27, [(0, .ref 135), (1, .int p1)], [.ref 135])) tb_c_184_0 mx_184 1 rfl ?_
    refine bk_gc tb_c_184_0 rfl rfl (ci := 11) (k := 17) rfl rfl rfl ?_
    refine bk_b (q := (31, [(0, .ref 135), (1, .int p1)], [.int p1, .ref 143])) tb_c_184_0 mx_184 1 rfl ?_
    by_cases g3 : p1 < 0 ∨ 15010 ≤ p1.toNatClampNeg
    · rw [if_pos g3] at h; cases h
    · rw [if_neg g3] at h
      refine bk_a4 tb_c_184_0 rfl rfl rfl g3 ?_
      by_cases g4 : (S2.1 143 p1.toNatClampNeg) = (1 : Int32)
      · rw [if_pos g4] at h
        refine bk_sw tb_c_184_0 rfl (pc' := 156) (by rw [g4]; rfl) ?_
        refine bk_b (q := (159, [(0, .ref 135), (1, .int p1)], [.int p1, .int (2 : Int32), .ref 135])) tb_c_184_1 mx_184 3 rfl ?_
        obtain ⟨S5, c7, h⟩ := wd_dx h
        refine bk_kv tb_c_184_1 rfl rfl rfl rfl rfl (ci := 11) rfl rfl (ev_up (Nat.le_of_ble_eq_true rfl) (sn_Mo_later c7)) ?_
        refine bk_b (q := (165, [(0, .ref 135), (1, .int p1)], [.ref 135, .int (1 : Int32), .ref 135])) tb_c_184_1 mx_184 3 rfl ?_
        refine bk_gc tb_c_184_1 rfl rfl (ci := 11) (k := 19) rfl rfl rfl ?_
        refine bk_b (q := (169, [(0, .ref 135), (1, .int p1)], [.int p1, .ref 145, .int (1 : Int32), .ref 135])) tb_c_184_1 mx_184 1 rfl ?_
        by_cases g8 : p1 < 0 ∨ 15010 ≤ p1.toNatClampNeg
        · rw [if_pos g8] at h; cases h
        · rw [if_neg g8] at h
          refine bk_a4 tb_c_184_1 rfl rfl rfl g8 ?_
          obtain ⟨S9, c11, h⟩ := wd_dx h
          refine bk_kv tb_c_184_1 rfl rfl rfl rfl rfl (ci := 11) rfl rfl (ev_up (Nat.le_of_ble_eq_true rfl) (sn_Mo_later c11)) ?_
          refine bk_b (q := (176, [(0, .ref 135), (1, .int p1)], [.ref 135, .int (1 : Int32), .ref 135])) tb_c_184_1 mx_184 3 rfl ?_
          refine bk_gc tb_c_184_2 rfl rfl (ci := 11) (k := 18) rfl rfl rfl ?_
          refine bk_b (q := (180, [(0, .ref 135), (1, .int p1)], [.int p1, .ref 144, .int (1 : Int32), .ref 135])) tb_c_184_2 mx_184 1 rfl ?_
          by_cases g12 : p1 < 0 ∨ 15010 ≤ p1.toNatClampNeg
          · rw [if_pos g12] at h; cases h
          · rw [if_neg g12] at h
            refine bk_a4 tb_c_184_2 rfl rfl rfl g12 ?_
            obtain ⟨S13, c15, h⟩ := wd_dx h
            refine bk_kv tb_c_184_2 rfl rfl rfl rfl rfl (ci := 11) rfl rfl (ev_up (Nat.le_of_ble_eq_true rfl) (sn_Mo_later c15)) ?_
            refine bk_b (q := (272, [(0, .ref 135), (1, .int p1)], [])) tb_c_184_2 mx_184 1 rfl ?_
            exact go_lv ls_nil (sn_Mo_onEv_272 h)
      · rw [if_neg g4] at h
        by_cases g16 : (S2.1 143 p1.toNatClampNeg) = (2 : Int32)
        · rw [if_pos g16] at h
          refine bk_sw tb_c_184_0 rfl (pc' := 187) (by rw [g16]; rfl) ?_
          refine bk_b (q := (190, [(0, .ref 135), (1, .int p1)], [.int p1, .int (3 : Int32), .ref 135])) tb_c_184_2 mx_184 3 rfl ?_
          obtain ⟨S17, c19, h⟩ := wd_dx h
          refine bk_kv tb_c_184_2 rfl rfl rfl rfl rfl (ci := 11) rfl rfl (ev_up (Nat.le_of_ble_eq_true rfl) (sn_Mo_later c19)) ?_
          refine bk_b (q := (196, [(0, .ref 135), (1, .int p1)], [.ref 135, .int (1 : Int32), .ref 135])) tb_c_184_2 mx_184 3 rfl ?_
          refine bk_gc tb_c_184_2 rfl rfl (ci := 11) (k := 18) rfl rfl rfl ?_
          refine bk_b (q := (200, [(0, .ref 135), (1, .int p1)], [.int p1, .ref 144, .int (1 : Int32), .ref 135])) tb_c_184_2 mx_184 1 rfl ?_
          by_cases g20 : p1 < 0 ∨ 15010 ≤ p1.toNatClampNeg
          · rw [if_pos g20] at h; cases h
          · rw [if_neg g20] at h
            refine bk_a4 tb_c_184_2 rfl rfl rfl g20 ?_
            obtain ⟨S21, c23, h⟩ := wd_dx h
            refine bk_kv tb_c_184_2 rfl rfl rfl rfl rfl (ci := 11) rfl rfl (ev_up (Nat.le_of_ble_eq_true rfl) (sn_Mo_later c23)) ?_
            refine bk_b (q := (272, [(0, .ref 135), (1, .int p1)], [])) tb_c_184_2 mx_184 1 rfl ?_
            exact go_lv ls_nil (sn_Mo_onEv_272 h)
        · rw [if_neg g16] at h
          by_cases g24 : (S2.1 143 p1.toNatClampNeg) = (3 : Int32)
          · rw [if_pos g24] at h
            refine bk_sw tb_c_184_0 rfl (pc' := 207) (by rw [g24]; rfl) ?_
            refine bk_b (q := (211, [(0, .ref 135), (1, .int p1)], [.int p1, .int (6 : Int32), .ref 135])) tb_c_184_2 mx_184 3 rfl ?_
            obtain ⟨S25, c27, h⟩ := wd_dx h
            refine bk_kv tb_c_184_2 rfl rfl rfl rfl rfl (ci := 11) rfl rfl (ev_up (Nat.le_of_ble_eq_true rfl) (sn_Mo_later c27)) ?_
            refine bk_b (q := (217, [(0, .ref 135), (1, .int p1)], [.ref 135, .int (1 : Int32), .ref 135])) tb_c_184_2 mx_184 3 rfl ?_
            refine bk_gc tb_c_184_2 rfl rfl (ci := 11) (k := 18) rfl rfl rfl ?_
            refine bk_b (q := (221, [(0, .ref 135), (1, .int p1)], [.int p1, .ref 144, .int (1 : Int32), .ref 135])) tb_c_184_2 mx_184 1 rfl ?_
            by_cases g28 : p1 < 0 ∨ 15010 ≤ p1.toNatClampNeg
            · rw [if_pos g28] at h; cases h
            · rw [if_neg g28] at h
              refine bk_a4 tb_c_184_2 rfl rfl rfl g28 ?_
              obtain ⟨S29, c31, h⟩ := wd_dx h
              refine bk_kv tb_c_184_2 rfl rfl rfl rfl rfl (ci := 11) rfl rfl (ev_up (Nat.le_of_ble_eq_true rfl) (sn_Mo_later c31)) ?_
              refine bk_b (q := (272, [(0, .ref 135), (1, .int p1)], [])) tb_c_184_2 mx_184 1 rfl ?_
              exact go_lv ls_nil (sn_Mo_onEv_272 h)
          · rw [if_neg g24] at h
            by_cases g32 : (S2.1 143 p1.toNatClampNeg) = (4 : Int32)
            · rw [if_pos g32] at h
              refine bk_sw tb_c_184_0 rfl (pc' := 228) (by rw [g32]; rfl) ?_
              refine bk_b (q := (232, [(0, .ref 135), (1, .int p1)], [.int p1, .int (7 : Int32), .ref 135])) tb_c_184_2 mx_184 3 rfl ?_
              obtain ⟨S33, c35, h⟩ := wd_dx h
              refine bk_kv tb_c_184_2 rfl rfl rfl rfl rfl (ci := 11) rfl rfl (ev_up (Nat.le_of_ble_eq_true rfl) (sn_Mo_later c35)) ?_
              refine bk_b (q := (236, [(0, .ref 135), (1, .int p1)], [.ref 135])) tb_c_184_2 mx_184 1 rfl ?_
              refine bk_gc tb_c_184_2 rfl rfl (ci := 11) (k := 19) rfl rfl rfl ?_
              refine bk_b (q := (240, [(0, .ref 135), (1, .int p1)], [.int p1, .ref 145])) tb_c_184_2 mx_184 1 rfl ?_
              by_cases g36 : p1 < 0 ∨ 15010 ≤ p1.toNatClampNeg
              · rw [if_pos g36] at h; cases h
              · rw [if_neg g36] at h
                refine bk_a4 tb_c_184_2 rfl rfl rfl g36 ?_
                refine bk_b (q := (244, [(2, .int ((S33.1 145 p1.toNatClampNeg) - (1 : Int32))), (0, .ref 135), (1, .int p1)], [])) tb_c_184_2 mx_184 3 rfl ?_
                exact go_lv (ls_sc rfl rfl (ls_sc rfl rfl (ls_sc rfl rfl ls_nil))) (sn_Mo_onEv_244 wd_F h)
            · rw [if_neg g32] at h
              by_cases g43 : (S2.1 143 p1.toNatClampNeg) = (5 : Int32)
              · rw [if_pos g43] at h
                refine bk_sw tb_c_184_0 rfl (pc' := 76) (by rw [g43]; rfl) ?_
                refine bk_b (q := (79, [(0, .ref 135), (1, .int p1)], [.ref 135, .int (1 : Int32), .ref 135])) tb_c_184_0 mx_184 3 rfl ?_
                refine bk_gc tb_c_184_0 rfl rfl (ci := 11) (k := 18) rfl rfl rfl ?_
                refine bk_b (q := (83, [(0, .ref 135), (1, .int p1)], [.int p1, .ref 144, .int (1 : Int32), .ref 135])) tb_c_184_0 mx_184 1 rfl ?_
                by_cases g44 : p1 < 0 ∨ 15010 ≤ p1.toNatClampNeg
                · rw [if_pos g44] at h; cases h
                · rw [if_neg g44] at h
                  refine bk_a4 tb_c_184_0 rfl rfl rfl g44 ?_
                  obtain ⟨S45, c47, h⟩ := wd_dx h
                  refine bk_kv tb_c_184_0 rfl rfl rfl rfl rfl (ci := 11) rfl rfl (ev_up (Nat.le_of_ble_eq_true rfl) (sn_Mo_gives c47)) ?_
                  refine bk_b (q := (272, [(0, .ref 135), (1, .int p1)], [])) tb_c_184_0 mx_184 1 rfl ?_
                  exact go_lv ls_nil (sn_Mo_onEv_272 h)
              · rw [if_neg g43] at h
                by_cases g48 : (S2.1 143 p1.toNatClampNeg) = (6 : Int32)
                · rw [if_pos g48] at h
                  refine bk_sw tb_c_184_0 rfl (pc' := 228) (by rw [g48]; rfl) ?_
                  refine bk_b (q := (232, [(0, .ref 135), (1, .int p1)], [.int p1, .int (7 : Int32), .ref 135])) tb_c_184_2 mx_184 3 rfl ?_
                  obtain ⟨S49, c51, h⟩ := wd_dx h
                  refine bk_kv tb_c_184_2 rfl rfl rfl rfl rfl (ci := 11) rfl rfl (ev_up (Nat.le_of_ble_eq_true rfl) (sn_Mo_later c51)) ?_
                  refine bk_b (q := (236, [(0, .ref 135), (1, .int p1)], [.ref 135])) tb_c_184_2 mx_184 1 rfl ?_
                  refine bk_gc tb_c_184_2 rfl rfl (ci := 11) (k := 19) rfl rfl rfl ?_
                  refine bk_b (q := (240, [(0, .ref 135), (1, .int p1)], [.int p1, .ref 145])) tb_c_184_2 mx_184 1 rfl ?_
                  by_cases g52 : p1 < 0 ∨ 15010 ≤ p1.toNatClampNeg
                  · rw [if_pos g52] at h; cases h
                  · rw [if_neg g52] at h
                    refine bk_a4 tb_c_184_2 rfl rfl rfl g52 ?_
                    refine bk_b (q := (244, [(2, .int ((S49.1 145 p1.toNatClampNeg) - (1 : Int32))), (0, .ref 135), (1, .int p1)], [])) tb_c_184_2 mx_184 3 rfl ?_
                    exact go_lv (ls_sc rfl rfl (ls_sc rfl rfl (ls_sc rfl rfl ls_nil))) (sn_Mo_onEv_244 wd_F h)
                · rw [if_neg g48] at h
                  by_cases g53 : (S2.1 143 p1.toNatClampNeg) = (7 : Int32)
                  · rw [if_pos g53] at h
                    refine bk_sw tb_c_184_0 rfl (pc' := 90) (by rw [g53]; rfl) ?_
                    refine bk_b (q := (91, [(0, .ref 135), (1, .int p1)], [.ref 135])) tb_c_184_0 mx_184 1 rfl ?_
                    refine bk_gc tb_c_184_0 rfl rfl (ci := 11) (k := 80) rfl rfl rfl ?_
                    refine bk_b (q := (95, [(0, .ref 135), (1, .int p1)], [.ref 135, .ref 169])) tb_c_184_0 mx_184 1 rfl ?_
                    refine bk_gc tb_c_184_0 rfl rfl (ci := 11) (k := 18) rfl rfl rfl ?_
                    refine bk_b (q := (99, [(0, .ref 135), (1, .int p1)], [.int p1, .ref 144, .ref 169])) tb_c_184_0 mx_184 1 rfl ?_
                    by_cases g54 : p1 < 0 ∨ 15010 ≤ p1.toNatClampNeg
                    · rw [if_pos g54] at h; cases h
                    · rw [if_neg g54] at h
                      refine bk_a4 tb_c_184_0 rfl rfl rfl g54 ?_
                      by_cases g55 : (S2.1 144 p1.toNatClampNeg) < 0 ∨ 16 ≤ (S2.1 144 p1.toNatClampNeg).toNatClampNeg
                      · rw [if_pos g55] at h; cases h
                      · rw [if_neg g55] at h
                        refine bk_a1 tb_c_184_0 rfl rfl rfl g55 ?_
                        by_cases g56 : (S2.1 169 (S2.1 144 p1.toNatClampNeg).toNatClampNeg) = 0
                        · rw [if_pos g56] at h
                          refine bk_zt tb_c_184_0 rfl (pc' := 123) rfl (cm_eq_t g56) ?_
                          refine bk_b (q := (126, [(0, .ref 135), (1, .int p1)], [.int (7 : Int32), .ref 135])) tb_c_184_1 mx_184 2 rfl ?_
                          obtain ⟨x58, S57, c59, h⟩ := wd_cx h
                          refine bk_kv tb_c_184_1 rfl rfl rfl rfl rfl (ci := 11) rfl rfl (ev_up (Nat.le_of_ble_eq_true rfl) (sn_Mo_fresh c59)) ?_
                          refine bk_b (q := (131, [(2, .int x58), (0, .ref 135), (1, .int p1)], [.ref 135])) tb_c_184_1 mx_184 2 rfl ?_
                          refine bk_gc tb_c_184_1 rfl rfl (ci := 11) (k := 18) rfl rfl rfl ?_
                          refine bk_b (q := (136, [(2, .int x58), (0, .ref 135), (1, .int p1)], [.ref 135, .int x58, .ref 144])) tb_c_184_1 mx_184 2 rfl ?_
                          refine bk_gc tb_c_184_1 rfl rfl (ci := 11) (k := 81) rfl rfl rfl ?_
                          refine bk_b (q := (140, [(2, .int x58), (0, .ref 135), (1, .int p1)], [.ref 135, .ref 170, .int x58, .ref 144])) tb_c_184_1 mx_184 1 rfl ?_
                          refine bk_gc tb_c_184_1 rfl rfl (ci := 11) (k := 18) rfl rfl rfl ?_
                          refine bk_b (q := (144, [(2, .int x58), (0, .ref 135), (1, .int p1)], [.int p1, .ref 144, .ref 170, .int x58, .ref 144])) tb_c_184_1 mx_184 1 rfl ?_
                          by_cases g60 : p1 < 0 ∨ 15010 ≤ p1.toNatClampNeg
                          · rw [if_pos g60] at h; cases h
                          · rw [if_neg g60] at h
                            refine bk_a4 tb_c_184_1 rfl rfl rfl g60 ?_
                            by_cases g61 : (S57.1 144 p1.toNatClampNeg) < 0 ∨ 16 ≤ (S57.1 144 p1.toNatClampNeg).toNatClampNeg
                            · rw [if_pos g61] at h; cases h
                            · rw [if_neg g61] at h
                              refine bk_a4 tb_c_184_1 rfl rfl rfl g61 ?_
                              by_cases g62 : x58 < 0 ∨ 15010 ≤ x58.toNatClampNeg
                              · rw [if_pos g62] at h; cases h
                              · rw [if_neg g62] at h
                                obtain ⟨S63, eS63, h⟩ := wd_bx h
                                refine bk_s4 tb_c_184_1 rfl rfl rfl g62 ?_
                                rw [eS63]
                                refine bk_b (q := (150, [(2, .int x58), (0, .ref 135), (1, .int p1)], [.int x58, .int (0 : Int32), .ref 135])) tb_c_184_1 mx_184 3 rfl ?_
                                obtain ⟨S64, c66, h⟩ := wd_dx h
                                refine bk_kv tb_c_184_1 rfl rfl rfl rfl rfl (ci := 11) rfl rfl (ev_up (Nat.le_of_ble_eq_true rfl) (sn_Mo_gives c66)) ?_
                                refine bk_b (q := (272, [(2, .int x58), (0, .ref 135), (1, .int p1)], [])) tb_c_184_1 mx_184 1 rfl ?_
                                exact go_lv ls_nil (sn_Mo_onEv_272 h)
                        · rw [if_neg g56] at h
                          refine bk_zf tb_c_184_0 rfl (pc' := 104) rfl (t := 123) rfl (cm_eq_f g56) ?_
                          refine bk_b (q := (107, [(0, .ref 135), (1, .int p1)], [.ref 135, .int (1 : Int32), .ref 135])) tb_c_184_0 mx_184 3 rfl ?_
                          refine bk_gc tb_c_184_0 rfl rfl (ci := 11) (k := 81) rfl rfl rfl ?_
                          refine bk_b (q := (111, [(0, .ref 135), (1, .int p1)], [.ref 135, .ref 170, .int (1 : Int32), .ref 135])) tb_c_184_0 mx_184 1 rfl ?_
                          refine bk_gc tb_c_184_1 rfl rfl (ci := 11) (k := 18) rfl rfl rfl ?_
                          refine bk_b (q := (115, [(0, .ref 135), (1, .int p1)], [.int p1, .ref 144, .ref 170, .int (1 : Int32), .ref 135])) tb_c_184_1 mx_184 1 rfl ?_
                          by_cases g67 : p1 < 0 ∨ 15010 ≤ p1.toNatClampNeg
                          · rw [if_pos g67] at h; cases h
                          · rw [if_neg g67] at h
                            refine bk_a4 tb_c_184_1 rfl rfl rfl g67 ?_
                            by_cases g68 : (S2.1 144 p1.toNatClampNeg) < 0 ∨ 16 ≤ (S2.1 144 p1.toNatClampNeg).toNatClampNeg
                            · rw [if_pos g68] at h; cases h
                            · rw [if_neg g68] at h
                              refine bk_a4 tb_c_184_1 rfl rfl rfl g68 ?_
                              obtain ⟨S69, c71, h⟩ := wd_dx h
                              refine bk_kv tb_c_184_1 rfl rfl rfl rfl rfl (ci := 11) rfl rfl (ev_up (Nat.le_of_ble_eq_true rfl) (sn_Mo_gives c71)) ?_
                              refine bk_b (q := (272, [(0, .ref 135), (1, .int p1)], [])) tb_c_184_1 mx_184 1 rfl ?_
                              exact go_lv ls_nil (sn_Mo_onEv_272 h)
                  · rw [if_neg g53] at h
                    refine bk_sw tb_c_184_0 rfl (pc' := 228) (sw_t (t := 228) (fun i h1 h2 => ?_) rfl) ?_
                    · have hi : i = 1 ∨ i = 2 ∨ i = 3 ∨ i = 4 ∨ i = 5 ∨ i = 6 ∨ i = 7 := by omega
                      rcases hi with rfl | rfl | rfl | rfl | rfl | rfl | rfl
                      · exact g4
                      · exact g16
                      · exact g24
                      · exact g32
                      · exact g43
                      · exact g48
                      · exact g53
                    · refine bk_b (q := (232, [(0, .ref 135), (1, .int p1)], [.int p1, .int (7 : Int32), .ref 135])) tb_c_184_2 mx_184 3 rfl ?_
                      obtain ⟨S72, c74, h⟩ := wd_dx h
                      refine bk_kv tb_c_184_2 rfl rfl rfl rfl rfl (ci := 11) rfl rfl (ev_up (Nat.le_of_ble_eq_true rfl) (sn_Mo_later c74)) ?_
                      refine bk_b (q := (236, [(0, .ref 135), (1, .int p1)], [.ref 135])) tb_c_184_2 mx_184 1 rfl ?_
                      refine bk_gc tb_c_184_2 rfl rfl (ci := 11) (k := 19) rfl rfl rfl ?_
                      refine bk_b (q := (240, [(0, .ref 135), (1, .int p1)], [.int p1, .ref 145])) tb_c_184_2 mx_184 1 rfl ?_
                      by_cases g75 : p1 < 0 ∨ 15010 ≤ p1.toNatClampNeg
                      · rw [if_pos g75] at h; cases h
                      · rw [if_neg g75] at h
                        refine bk_a4 tb_c_184_2 rfl rfl rfl g75 ?_
                        refine bk_b (q := (244, [(2, .int ((S72.1 145 p1.toNatClampNeg) - (1 : Int32))), (0, .ref 135), (1, .int p1)], [])) tb_c_184_2 mx_184 3 rfl ?_
                        exact go_lv (ls_sc rfl rfl (ls_sc rfl rfl (ls_sc rfl rfl ls_nil))) (sn_Mo_onEv_244 wd_F h)
theorem mx_187 : mi_mx tb_P 187 = 3 := rfl
noncomputable def fn_Mo_applied_65 (s0 : Int32) (S : wd_S) : Option (Int32 × wd_S) :=
  some (s0, S)
set_option maxRecDepth 100000 in
theorem sn_Mo_applied_65 {L : Nat} {xs : Nat → Int32} {s0 : Int32} {S : wd_S} {x : Int32} {S' : wd_S} (h : fn_Mo_applied_65 s0 S = some (x, S')) : go_r tb_P L xs 0 187 65 [] [.int s0] (wd_k S) (.inl (some (.int x)), wd_k S') := by
  unfold fn_Mo_applied_65 at h
  cases h
  exact bk_t tb_c_187_0 rfl rfl
/-- SpecialiserModel.applied(III)I -/
noncomputable def fn_Mo_applied (p0 : Int32) (p1 : Int32) (p2 : Int32) (S : wd_S) : Option (Int32 × wd_S) :=
  (if p0 = (19 : Int32) then
    fn_Mo_applied_65 (p1 + p2) S
  else
    (if p0 = (20 : Int32) then
      fn_Mo_applied_65 (p1 - p2) S
    else
      (if p0 = (21 : Int32) then
        fn_Mo_applied_65 (p1 * p2) S
      else
        (if p0 = (22 : Int32) then
          (if p1 < p2 then
            fn_Mo_applied_65 (1 : Int32) S
          else
            fn_Mo_applied_65 (0 : Int32) S)
        else
          (if p1 = p2 then
            fn_Mo_applied_65 (1 : Int32) S
          else
            fn_Mo_applied_65 (0 : Int32) S)))))
set_option maxRecDepth 100000 in
theorem sn_Mo_applied {L : Nat} {xs : Nat → Int32} {p0 : Int32} {p1 : Int32} {p2 : Int32} {S : wd_S} {x : Int32} {S' : wd_S} (h : fn_Mo_applied p0 p1 p2 S = some (x, S')) : ev_r tb_P L xs (0 + 1) 187 [.int p0, .int p1, .int p2] (wd_k S) (.inl (some (.int x)), wd_k S') := by
  unfold fn_Mo_applied at h
  refine ev_of (Nat.le_of_ble_eq_true rfl) ?_
  show go_r tb_P L xs 0 187 0 [(0, .int p0), (1, .int p1), (2, .int p2)] [] (wd_k S) (.inl (some (.int x)), wd_k S')
  refine bk_b (q := (3, [(0, .int p0), (1, .int p1), (2, .int p2)], [.int (19 : Int32), .int p0])) tb_c_187_0 mx_187 2 rfl ?_
  by_cases g1 : p0 = (19 : Int32)
  · rw [if_pos g1] at h
    refine bk_jf tb_c_187_0 rfl (pc' := 6) rfl (t := 12) rfl (cm_ne_f g1) ?_
    refine bk_b (q := (65, [(0, .int p0), (1, .int p1), (2, .int p2)], [.int (p1 + p2)])) tb_c_187_0 mx_187 4 rfl ?_
    exact go_lv ls_nil (sn_Mo_applied_65 h)
  · rw [if_neg g1] at h
    refine bk_jt tb_c_187_0 rfl (pc' := 12) rfl (cm_ne_t g1) ?_
    refine bk_b (q := (15, [(0, .int p0), (1, .int p1), (2, .int p2)], [.int (20 : Int32), .int p0])) tb_c_187_0 mx_187 2 rfl ?_
    by_cases g2 : p0 = (20 : Int32)
    · rw [if_pos g2] at h
      refine bk_jf tb_c_187_0 rfl (pc' := 18) rfl (t := 24) rfl (cm_ne_f g2) ?_
      refine bk_b (q := (65, [(0, .int p0), (1, .int p1), (2, .int p2)], [.int (p1 - p2)])) tb_c_187_0 mx_187 4 rfl ?_
      exact go_lv ls_nil (sn_Mo_applied_65 h)
    · rw [if_neg g2] at h
      refine bk_jt tb_c_187_0 rfl (pc' := 24) rfl (cm_ne_t g2) ?_
      refine bk_b (q := (27, [(0, .int p0), (1, .int p1), (2, .int p2)], [.int (21 : Int32), .int p0])) tb_c_187_0 mx_187 2 rfl ?_
      by_cases g3 : p0 = (21 : Int32)
      · rw [if_pos g3] at h
        refine bk_jf tb_c_187_0 rfl (pc' := 30) rfl (t := 36) rfl (cm_ne_f g3) ?_
        refine bk_b (q := (65, [(0, .int p0), (1, .int p1), (2, .int p2)], [.int (p1 * p2)])) tb_c_187_0 mx_187 4 rfl ?_
        exact go_lv ls_nil (sn_Mo_applied_65 h)
      · rw [if_neg g3] at h
        refine bk_jt tb_c_187_0 rfl (pc' := 36) rfl (cm_ne_t g3) ?_
        refine bk_b (q := (39, [(0, .int p0), (1, .int p1), (2, .int p2)], [.int (22 : Int32), .int p0])) tb_c_187_0 mx_187 2 rfl ?_
        by_cases g4 : p0 = (22 : Int32)
        · rw [if_pos g4] at h
          refine bk_jf tb_c_187_0 rfl (pc' := 42) rfl (t := 55) rfl (cm_ne_f g4) ?_
          refine bk_b (q := (44, [(0, .int p0), (1, .int p1), (2, .int p2)], [.int p2, .int p1])) tb_c_187_0 mx_187 2 rfl ?_
          by_cases g6 : p1 < p2
          · rw [if_pos g6] at h
            refine bk_jf tb_c_187_0 rfl (pc' := 47) rfl (t := 51) rfl (cm_ge_f g6) ?_
            refine bk_b (q := (65, [(0, .int p0), (1, .int p1), (2, .int p2)], [.int (1 : Int32)])) tb_c_187_0 mx_187 2 rfl ?_
            exact go_lv ls_nil (sn_Mo_applied_65 h)
          · rw [if_neg g6] at h
            refine bk_jt tb_c_187_0 rfl (pc' := 51) rfl (cm_ge_t g6) ?_
            refine bk_b (q := (65, [(0, .int p0), (1, .int p1), (2, .int p2)], [.int (0 : Int32)])) tb_c_187_0 mx_187 2 rfl ?_
            exact go_lv ls_nil (sn_Mo_applied_65 h)
        · rw [if_neg g4] at h
          refine bk_jt tb_c_187_0 rfl (pc' := 55) rfl (cm_ne_t g4) ?_
          refine bk_b (q := (57, [(0, .int p0), (1, .int p1), (2, .int p2)], [.int p2, .int p1])) tb_c_187_0 mx_187 2 rfl ?_
          by_cases g5 : p1 = p2
          · rw [if_pos g5] at h
            refine bk_jf tb_c_187_0 rfl (pc' := 60) rfl (t := 64) rfl (cm_ne_f g5) ?_
            refine bk_b (q := (65, [(0, .int p0), (1, .int p1), (2, .int p2)], [.int (1 : Int32)])) tb_c_187_0 mx_187 2 rfl ?_
            exact go_lv ls_nil (sn_Mo_applied_65 h)
          · rw [if_neg g5] at h
            refine bk_jt tb_c_187_0 rfl (pc' := 64) rfl (cm_ne_t g5) ?_
            refine bk_b (q := (65, [(0, .int p0), (1, .int p1), (2, .int p2)], [.int (0 : Int32)])) tb_c_187_0 mx_187 1 rfl ?_
            exact go_lv ls_nil (sn_Mo_applied_65 h)
theorem mx_188 : mi_mx tb_P 188 = 3 := rfl
/-- SpecialiserModel.nodeOf(I)I -/
noncomputable def fn_Mo_nodeOf (p1 : Int32) (S : wd_S) : Option (Int32 × wd_S) :=
  (if p1 < 0 ∨ 4000 ≤ p1.toNatClampNeg then none else
  (if (S.1 167 p1.toNatClampNeg) = 0 then
    (if p1 < 0 ∨ 4000 ≤ p1.toNatClampNeg then none else
    some (S.1 168 p1.toNatClampNeg, S))
  else
    (wd_c (fn_Mo_fresh (5 : Int32) S) fun x4 S3 =>
    (if p1 < 0 ∨ 4000 ≤ p1.toNatClampNeg then none else
    (if x4 < 0 ∨ 15010 ≤ x4.toNatClampNeg then none else
    (wd_b (wd_i S3 144 x4.toNatClampNeg (S3.1 168 p1.toNatClampNeg)) fun S8 =>
    some (x4, S8)))))))
set_option maxRecDepth 100000 in
theorem sn_Mo_nodeOf {L : Nat} {xs : Nat → Int32} {p1 : Int32} {S : wd_S} {x : Int32} {S' : wd_S} (h : fn_Mo_nodeOf p1 S = some (x, S')) : ev_r tb_P L xs (1 + 1) 188 [.ref 135, .int p1] (wd_k S) (.inl (some (.int x)), wd_k S') := by
  unfold fn_Mo_nodeOf at h
  refine ev_of (Nat.le_of_ble_eq_true rfl) ?_
  show go_r tb_P L xs 1 188 0 [(0, .ref 135), (1, .int p1)] [] (wd_k S) (.inl (some (.int x)), wd_k S')
  refine bk_b (q := (1, [(0, .ref 135), (1, .int p1)], [.ref 135])) tb_c_188_0 mx_188 1 rfl ?_
  refine bk_gc tb_c_188_0 rfl rfl (ci := 11) (k := 77) rfl rfl rfl ?_
  refine bk_b (q := (5, [(0, .ref 135), (1, .int p1)], [.int p1, .ref 167])) tb_c_188_0 mx_188 1 rfl ?_
  by_cases g1 : p1 < 0 ∨ 4000 ≤ p1.toNatClampNeg
  · rw [if_pos g1] at h; cases h
  · rw [if_neg g1] at h
    refine bk_a1 tb_c_188_0 rfl rfl rfl g1 ?_
    by_cases g2 : (S.1 167 p1.toNatClampNeg) = 0
    · rw [if_pos g2] at h
      refine bk_zf tb_c_188_0 rfl (pc' := 9) rfl (t := 16) rfl (cm_ne_f g2) ?_
      refine bk_b (q := (10, [(0, .ref 135), (1, .int p1)], [.ref 135])) tb_c_188_0 mx_188 1 rfl ?_
      refine bk_gc tb_c_188_0 rfl rfl (ci := 11) (k := 78) rfl rfl rfl ?_
      refine bk_b (q := (14, [(0, .ref 135), (1, .int p1)], [.int p1, .ref 168])) tb_c_188_0 mx_188 1 rfl ?_
      by_cases g9 : p1 < 0 ∨ 4000 ≤ p1.toNatClampNeg
      · rw [if_pos g9] at h; cases h
      · rw [if_neg g9] at h
        refine bk_a4 tb_c_188_0 rfl rfl rfl g9 ?_
        cases h
        exact bk_t tb_c_188_0 rfl rfl
    · rw [if_neg g2] at h
      refine bk_zt tb_c_188_0 rfl (pc' := 16) rfl (cm_ne_t g2) ?_
      refine bk_b (q := (18, [(0, .ref 135), (1, .int p1)], [.int (5 : Int32), .ref 135])) tb_c_188_0 mx_188 2 rfl ?_
      obtain ⟨x4, S3, c5, h⟩ := wd_cx h
      refine bk_kv tb_c_188_0 rfl rfl rfl rfl rfl (ci := 11) rfl rfl (ev_up (Nat.le_of_ble_eq_true rfl) (sn_Mo_fresh c5)) ?_
      refine bk_b (q := (23, [(2, .int x4), (0, .ref 135), (1, .int p1)], [.ref 135])) tb_c_188_0 mx_188 2 rfl ?_
      refine bk_gc tb_c_188_0 rfl rfl (ci := 11) (k := 18) rfl rfl rfl ?_
      refine bk_b (q := (28, [(2, .int x4), (0, .ref 135), (1, .int p1)], [.ref 135, .int x4, .ref 144])) tb_c_188_0 mx_188 2 rfl ?_
      refine bk_gc tb_c_188_0 rfl rfl (ci := 11) (k := 78) rfl rfl rfl ?_
      refine bk_b (q := (32, [(2, .int x4), (0, .ref 135), (1, .int p1)], [.int p1, .ref 168, .int x4, .ref 144])) tb_c_188_0 mx_188 1 rfl ?_
      by_cases g6 : p1 < 0 ∨ 4000 ≤ p1.toNatClampNeg
      · rw [if_pos g6] at h; cases h
      · rw [if_neg g6] at h
        refine bk_a4 tb_c_188_0 rfl rfl rfl g6 ?_
        by_cases g7 : x4 < 0 ∨ 15010 ≤ x4.toNatClampNeg
        · rw [if_pos g7] at h; cases h
        · rw [if_neg g7] at h
          obtain ⟨S8, eS8, h⟩ := wd_bx h
          refine bk_s4 tb_c_188_0 rfl rfl rfl g7 ?_
          rw [eS8]
          refine bk_b (q := (35, [(2, .int x4), (0, .ref 135), (1, .int p1)], [.int x4])) tb_c_188_0 mx_188 1 rfl ?_
          cases h
          exact bk_t tb_c_188_0 rfl rfl
theorem mx_191 : mi_mx tb_P 191 = 3 := rfl
noncomputable def fn_Mo_work_317 (S : wd_S) : Option wd_S :=
  some S
set_option maxRecDepth 100000 in
theorem sn_Mo_work_317 {L : Nat} {xs : Nat → Int32} {S : wd_S} {S' : wd_S} (h : fn_Mo_work_317  S = some S') : go_r tb_P L xs 1 191 317 [] [] (wd_k S) (.inl none, wd_k S') := by
  unfold fn_Mo_work_317 at h
  cases h
  exact bk_t tb_c_191_3 rfl rfl
noncomputable def fn_Mo_work_283 : Nat → Int32 → Int32 → wd_S → Option wd_S
  | 0, _, _, _ => none
  | n + 1, l1, l2, S =>
    (if l2 < 0 then
      fn_Mo_work_317  S
    else
      (wd_d (fn_Mo_push (4 : Int32) (0 : Int32) S) fun S51 =>
      (if l1 < 0 ∨ 15010 ≤ l1.toNatClampNeg then none else
      (if ((S51.1 144 l1.toNatClampNeg) + l2) < 0 ∨ 15010 ≤ ((S51.1 144 l1.toNatClampNeg) + l2).toNatClampNeg then none else
      (wd_d (fn_Mo_push (1 : Int32) (S51.1 149 ((S51.1 144 l1.toNatClampNeg) + l2).toNatClampNeg) S51) fun S56 =>
      fn_Mo_work_283 n l1 (l2 + (-1 : Int32)) S56)))))
set_option maxRecDepth 100000 in
theorem sn_Mo_work_283 {L : Nat} {xs : Nat → Int32} : ∀ (n : Nat) {l1 : Int32} {l2 : Int32} {S : wd_S} {S' : wd_S}, fn_Mo_work_283 n l1 l2 S = some S' → go_r tb_P L xs 1 191 283 [(0, .ref 135), (1, .int l1), (2, .int l2)] [] (wd_k S) (.inl none, wd_k S') := by
  intro n
  induction n with
  | zero => intro l1 l2 S S'  h; cases h
  | succ n ih =>
    intro l1 l2 S S'  h
    rw [fn_Mo_work_283] at h
    refine bk_b (q := (284, [(0, .ref 135), (1, .int l1), (2, .int l2)], [.int l2])) tb_c_191_3 mx_191 1 rfl ?_
    by_cases g50 : l2 < 0
    · rw [if_pos g50] at h
      refine bk_zt tb_c_191_3 rfl (pc' := 317) rfl (cm_lt_t g50) ?_
      exact go_lv ls_nil (sn_Mo_work_317 h)
    · rw [if_neg g50] at h
      refine bk_zf tb_c_191_3 rfl (pc' := 287) rfl (t := 317) rfl (cm_lt_f g50) ?_
      refine bk_b (q := (290, [(0, .ref 135), (1, .int l1), (2, .int l2)], [.int (0 : Int32), .int (4 : Int32), .ref 135])) tb_c_191_3 mx_191 3 rfl ?_
      obtain ⟨S51, c53, h⟩ := wd_dx h
      refine bk_kv tb_c_191_3 rfl rfl rfl rfl rfl (ci := 11) rfl rfl (ev_up (Nat.le_of_ble_eq_true rfl) (sn_Mo_push c53)) ?_
      refine bk_b (q := (296, [(0, .ref 135), (1, .int l1), (2, .int l2)], [.ref 135, .int (1 : Int32), .ref 135])) tb_c_191_3 mx_191 3 rfl ?_
      refine bk_gc tb_c_191_3 rfl rfl (ci := 11) (k := 23) rfl rfl rfl ?_
      refine bk_b (q := (300, [(0, .ref 135), (1, .int l1), (2, .int l2)], [.ref 135, .ref 149, .int (1 : Int32), .ref 135])) tb_c_191_3 mx_191 1 rfl ?_
      refine bk_gc tb_c_191_3 rfl rfl (ci := 11) (k := 18) rfl rfl rfl ?_
      refine bk_b (q := (304, [(0, .ref 135), (1, .int l1), (2, .int l2)], [.int l1, .ref 144, .ref 149, .int (1 : Int32), .ref 135])) tb_c_191_3 mx_191 1 rfl ?_
      by_cases g54 : l1 < 0 ∨ 15010 ≤ l1.toNatClampNeg
      · rw [if_pos g54] at h; cases h
      · rw [if_neg g54] at h
        refine bk_a4 tb_c_191_3 rfl rfl rfl g54 ?_
        refine bk_b (q := (307, [(0, .ref 135), (1, .int l1), (2, .int l2)], [.int ((S51.1 144 l1.toNatClampNeg) + l2), .ref 149, .int (1 : Int32), .ref 135])) tb_c_191_3 mx_191 2 rfl ?_
        by_cases g55 : ((S51.1 144 l1.toNatClampNeg) + l2) < 0 ∨ 15010 ≤ ((S51.1 144 l1.toNatClampNeg) + l2).toNatClampNeg
        · rw [if_pos g55] at h; cases h
        · rw [if_neg g55] at h
          refine bk_a4 tb_c_191_3 rfl rfl rfl g55 ?_
          obtain ⟨S56, c58, h⟩ := wd_dx h
          refine bk_kv tb_c_191_3 rfl rfl rfl rfl rfl (ci := 11) rfl rfl (ev_up (Nat.le_of_ble_eq_true rfl) (sn_Mo_push c58)) ?_
          refine bk_b (q := (283, [(2, .int (l2 + (-1 : Int32))), (0, .ref 135), (1, .int l1)], [])) tb_c_191_3 mx_191 2 rfl ?_
          exact go_lv (ls_sc rfl rfl (ls_sc rfl rfl (ls_sc rfl rfl ls_nil))) (ih h)
noncomputable def fn_Mo_work_85 (l1 : Int32) (s1 : Int32) (S : wd_S) : Option wd_S :=
  (wd_b (wd_i S 135 51 s1) fun S8 =>
  (wd_d (fn_Mo_push (2 : Int32) (0 : Int32) S8) fun S9 =>
  (if l1 < 0 ∨ 15010 ≤ l1.toNatClampNeg then none else
  (if (S9.1 143 l1.toNatClampNeg) = (1 : Int32) then
    (if l1 < 0 ∨ 15010 ≤ l1.toNatClampNeg then none else
    (wd_d (fn_Mo_push (5 : Int32) (S9.1 146 l1.toNatClampNeg) S9) fun S15 =>
    (if l1 < 0 ∨ 15010 ≤ l1.toNatClampNeg then none else
    (wd_d (fn_Mo_push (1 : Int32) (S15.1 145 l1.toNatClampNeg) S15) fun S19 =>
    (wd_d (fn_Mo_push (4 : Int32) (0 : Int32) S19) fun S22 =>
    (if l1 < 0 ∨ 15010 ≤ l1.toNatClampNeg then none else
    (wd_d (fn_Mo_push (1 : Int32) (S22.1 144 l1.toNatClampNeg) S22) fun S26 =>
    fn_Mo_work_317  S26)))))))
  else
  (if (S9.1 143 l1.toNatClampNeg) = (2 : Int32) then
    (wd_d (fn_Mo_push (6 : Int32) l1 S9) fun S30 =>
    (if l1 < 0 ∨ 15010 ≤ l1.toNatClampNeg then none else
    (wd_d (fn_Mo_push (1 : Int32) (S30.1 144 l1.toNatClampNeg) S30) fun S34 =>
    fn_Mo_work_317  S34)))
  else
  (if (S9.1 143 l1.toNatClampNeg) = (3 : Int32) then
    (wd_d (fn_Mo_push (7 : Int32) l1 S9) fun S38 =>
    (if l1 < 0 ∨ 15010 ≤ l1.toNatClampNeg then none else
    (wd_d (fn_Mo_push (1 : Int32) (S38.1 144 l1.toNatClampNeg) S38) fun S42 =>
    fn_Mo_work_317  S42)))
  else
  (if (S9.1 143 l1.toNatClampNeg) = (4 : Int32) then
    (wd_d (fn_Mo_push (8 : Int32) l1 S9) fun S46 =>
    (if l1 < 0 ∨ 15010 ≤ l1.toNatClampNeg then none else
    fn_Mo_work_283 wd_F l1 ((S46.1 145 l1.toNatClampNeg) - (1 : Int32)) S46))
  else
  (if (S9.1 143 l1.toNatClampNeg) = (5 : Int32) then
    (if l1 < 0 ∨ 15010 ≤ l1.toNatClampNeg then none else
    (wd_b (wd_i S9 135 47 (S9.1 144 l1.toNatClampNeg)) fun S61 =>
    fn_Mo_work_317  S61))
  else
  (if (S9.1 143 l1.toNatClampNeg) = (6 : Int32) then
    (wd_d (fn_Mo_push (8 : Int32) l1 S9) fun S63 =>
    (if l1 < 0 ∨ 15010 ≤ l1.toNatClampNeg then none else
    fn_Mo_work_283 wd_F l1 ((S63.1 145 l1.toNatClampNeg) - (1 : Int32)) S63))
  else
  (if (S9.1 143 l1.toNatClampNeg) = (7 : Int32) then
    (if l1 < 0 ∨ 15010 ≤ l1.toNatClampNeg then none else
    (if (((16 : Int32) * (S9.1 135 46)) + (S9.1 144 l1.toNatClampNeg)) < 0 ∨ 2640 ≤ (((16 : Int32) * (S9.1 135 46)) + (S9.1 144 l1.toNatClampNeg)).toNatClampNeg then none else
    (wd_b (wd_i S9 135 47 (S9.1 158 (((16 : Int32) * (S9.1 135 46)) + (S9.1 144 l1.toNatClampNeg)).toNatClampNeg)) fun S70 =>
    fn_Mo_work_317  S70)))
  else
  (wd_d (fn_Mo_push (8 : Int32) l1 S9) fun S71 =>
  (if l1 < 0 ∨ 15010 ≤ l1.toNatClampNeg then none else
  fn_Mo_work_283 wd_F l1 ((S71.1 145 l1.toNatClampNeg) - (1 : Int32)) S71))))))))))))
set_option maxRecDepth 100000 in
theorem sn_Mo_work_85 {L : Nat} {xs : Nat → Int32} {l1 : Int32} {s1 : Int32} {S : wd_S} {S' : wd_S} (h : fn_Mo_work_85 l1 s1 S = some S') : go_r tb_P L xs 1 191 85 [(0, .ref 135), (1, .int l1)] [.int s1, .ref 135] (wd_k S) (.inl none, wd_k S') := by
  unfold fn_Mo_work_85 at h
  obtain ⟨S8, eS8, h⟩ := wd_bx h
  refine bk_pi tb_c_191_1 rfl rfl (ci := 11) (k := 51) rfl rfl rfl rfl ?_
  rw [eS8]
  refine bk_b (q := (91, [(0, .ref 135), (1, .int l1)], [.int (0 : Int32), .int (2 : Int32), .ref 135])) tb_c_191_1 mx_191 3 rfl ?_
  obtain ⟨S9, c11, h⟩ := wd_dx h
  refine bk_kv tb_c_191_1 rfl rfl rfl rfl rfl (ci := 11) rfl rfl (ev_up (Nat.le_of_ble_eq_true rfl) (sn_Mo_push c11)) ?_
  refine bk_b (q := (95, [(0, .ref 135), (1, .int l1)], [.ref 135])) tb_c_191_1 mx_191 1 rfl ?_
  refine bk_gc tb_c_191_1 rfl rfl (ci := 11) (k := 17) rfl rfl rfl ?_
  refine bk_b (q := (99, [(0, .ref 135), (1, .int l1)], [.int l1, .ref 143])) tb_c_191_1 mx_191 1 rfl ?_
  by_cases g12 : l1 < 0 ∨ 15010 ≤ l1.toNatClampNeg
  · rw [if_pos g12] at h; cases h
  · rw [if_neg g12] at h
    refine bk_a4 tb_c_191_1 rfl rfl rfl g12 ?_
    by_cases g13 : (S9.1 143 l1.toNatClampNeg) = (1 : Int32)
    · rw [if_pos g13] at h
      refine bk_sw tb_c_191_1 rfl (pc' := 183) (by rw [g13]; rfl) ?_
      refine bk_b (q := (186, [(0, .ref 135), (1, .int l1)], [.ref 135, .int (5 : Int32), .ref 135])) tb_c_191_1 mx_191 3 rfl ?_
      refine bk_gc tb_c_191_1 rfl rfl (ci := 11) (k := 20) rfl rfl rfl ?_
      refine bk_b (q := (190, [(0, .ref 135), (1, .int l1)], [.int l1, .ref 146, .int (5 : Int32), .ref 135])) tb_c_191_1 mx_191 1 rfl ?_
      by_cases g14 : l1 < 0 ∨ 15010 ≤ l1.toNatClampNeg
      · rw [if_pos g14] at h; cases h
      · rw [if_neg g14] at h
        refine bk_a4 tb_c_191_2 rfl rfl rfl g14 ?_
        obtain ⟨S15, c17, h⟩ := wd_dx h
        refine bk_kv tb_c_191_2 rfl rfl rfl rfl rfl (ci := 11) rfl rfl (ev_up (Nat.le_of_ble_eq_true rfl) (sn_Mo_push c17)) ?_
        refine bk_b (q := (197, [(0, .ref 135), (1, .int l1)], [.ref 135, .int (1 : Int32), .ref 135])) tb_c_191_2 mx_191 3 rfl ?_
        refine bk_gc tb_c_191_2 rfl rfl (ci := 11) (k := 19) rfl rfl rfl ?_
        refine bk_b (q := (201, [(0, .ref 135), (1, .int l1)], [.int l1, .ref 145, .int (1 : Int32), .ref 135])) tb_c_191_2 mx_191 1 rfl ?_
        by_cases g18 : l1 < 0 ∨ 15010 ≤ l1.toNatClampNeg
        · rw [if_pos g18] at h; cases h
        · rw [if_neg g18] at h
          refine bk_a4 tb_c_191_2 rfl rfl rfl g18 ?_
          obtain ⟨S19, c21, h⟩ := wd_dx h
          refine bk_kv tb_c_191_2 rfl rfl rfl rfl rfl (ci := 11) rfl rfl (ev_up (Nat.le_of_ble_eq_true rfl) (sn_Mo_push c21)) ?_
          refine bk_b (q := (208, [(0, .ref 135), (1, .int l1)], [.int (0 : Int32), .int (4 : Int32), .ref 135])) tb_c_191_2 mx_191 3 rfl ?_
          obtain ⟨S22, c24, h⟩ := wd_dx h
          refine bk_kv tb_c_191_2 rfl rfl rfl rfl rfl (ci := 11) rfl rfl (ev_up (Nat.le_of_ble_eq_true rfl) (sn_Mo_push c24)) ?_
          refine bk_b (q := (214, [(0, .ref 135), (1, .int l1)], [.ref 135, .int (1 : Int32), .ref 135])) tb_c_191_2 mx_191 3 rfl ?_
          refine bk_gc tb_c_191_2 rfl rfl (ci := 11) (k := 18) rfl rfl rfl ?_
          refine bk_b (q := (218, [(0, .ref 135), (1, .int l1)], [.int l1, .ref 144, .int (1 : Int32), .ref 135])) tb_c_191_2 mx_191 1 rfl ?_
          by_cases g25 : l1 < 0 ∨ 15010 ≤ l1.toNatClampNeg
          · rw [if_pos g25] at h; cases h
          · rw [if_neg g25] at h
            refine bk_a4 tb_c_191_2 rfl rfl rfl g25 ?_
            obtain ⟨S26, c28, h⟩ := wd_dx h
            refine bk_kv tb_c_191_2 rfl rfl rfl rfl rfl (ci := 11) rfl rfl (ev_up (Nat.le_of_ble_eq_true rfl) (sn_Mo_push c28)) ?_
            refine bk_b (q := (317, [(0, .ref 135), (1, .int l1)], [])) tb_c_191_2 mx_191 1 rfl ?_
            exact go_lv ls_nil (sn_Mo_work_317 h)
    · rw [if_neg g13] at h
      by_cases g29 : (S9.1 143 l1.toNatClampNeg) = (2 : Int32)
      · rw [if_pos g29] at h
        refine bk_sw tb_c_191_1 rfl (pc' := 225) (by rw [g29]; rfl) ?_
        refine bk_b (q := (229, [(0, .ref 135), (1, .int l1)], [.int l1, .int (6 : Int32), .ref 135])) tb_c_191_2 mx_191 3 rfl ?_
        obtain ⟨S30, c32, h⟩ := wd_dx h
        refine bk_kv tb_c_191_2 rfl rfl rfl rfl rfl (ci := 11) rfl rfl (ev_up (Nat.le_of_ble_eq_true rfl) (sn_Mo_push c32)) ?_
        refine bk_b (q := (235, [(0, .ref 135), (1, .int l1)], [.ref 135, .int (1 : Int32), .ref 135])) tb_c_191_2 mx_191 3 rfl ?_
        refine bk_gc tb_c_191_2 rfl rfl (ci := 11) (k := 18) rfl rfl rfl ?_
        refine bk_b (q := (239, [(0, .ref 135), (1, .int l1)], [.int l1, .ref 144, .int (1 : Int32), .ref 135])) tb_c_191_2 mx_191 1 rfl ?_
        by_cases g33 : l1 < 0 ∨ 15010 ≤ l1.toNatClampNeg
        · rw [if_pos g33] at h; cases h
        · rw [if_neg g33] at h
          refine bk_a4 tb_c_191_2 rfl rfl rfl g33 ?_
          obtain ⟨S34, c36, h⟩ := wd_dx h
          refine bk_kv tb_c_191_2 rfl rfl rfl rfl rfl (ci := 11) rfl rfl (ev_up (Nat.le_of_ble_eq_true rfl) (sn_Mo_push c36)) ?_
          refine bk_b (q := (317, [(0, .ref 135), (1, .int l1)], [])) tb_c_191_2 mx_191 1 rfl ?_
          exact go_lv ls_nil (sn_Mo_work_317 h)
      · rw [if_neg g29] at h
        by_cases g37 : (S9.1 143 l1.toNatClampNeg) = (3 : Int32)
        · rw [if_pos g37] at h
          refine bk_sw tb_c_191_1 rfl (pc' := 246) (by rw [g37]; rfl) ?_
          refine bk_b (q := (250, [(0, .ref 135), (1, .int l1)], [.int l1, .int (7 : Int32), .ref 135])) tb_c_191_2 mx_191 3 rfl ?_
          obtain ⟨S38, c40, h⟩ := wd_dx h
          refine bk_kv tb_c_191_2 rfl rfl rfl rfl rfl (ci := 11) rfl rfl (ev_up (Nat.le_of_ble_eq_true rfl) (sn_Mo_push c40)) ?_
          refine bk_b (q := (256, [(0, .ref 135), (1, .int l1)], [.ref 135, .int (1 : Int32), .ref 135])) tb_c_191_2 mx_191 3 rfl ?_
          refine bk_gc tb_c_191_3 rfl rfl (ci := 11) (k := 18) rfl rfl rfl ?_
          refine bk_b (q := (260, [(0, .ref 135), (1, .int l1)], [.int l1, .ref 144, .int (1 : Int32), .ref 135])) tb_c_191_3 mx_191 1 rfl ?_
          by_cases g41 : l1 < 0 ∨ 15010 ≤ l1.toNatClampNeg
          · rw [if_pos g41] at h; cases h
          · rw [if_neg g41] at h
            refine bk_a4 tb_c_191_3 rfl rfl rfl g41 ?_
            obtain ⟨S42, c44, h⟩ := wd_dx h
            refine bk_kv tb_c_191_3 rfl rfl rfl rfl rfl (ci := 11) rfl rfl (ev_up (Nat.le_of_ble_eq_true rfl) (sn_Mo_push c44)) ?_
            refine bk_b (q := (317, [(0, .ref 135), (1, .int l1)], [])) tb_c_191_3 mx_191 1 rfl ?_
            exact go_lv ls_nil (sn_Mo_work_317 h)
        · rw [if_neg g37] at h
          by_cases g45 : (S9.1 143 l1.toNatClampNeg) = (4 : Int32)
          · rw [if_pos g45] at h
            refine bk_sw tb_c_191_1 rfl (pc' := 267) (by rw [g45]; rfl) ?_
            refine bk_b (q := (271, [(0, .ref 135), (1, .int l1)], [.int l1, .int (8 : Int32), .ref 135])) tb_c_191_3 mx_191 3 rfl ?_
            obtain ⟨S46, c48, h⟩ := wd_dx h
            refine bk_kv tb_c_191_3 rfl rfl rfl rfl rfl (ci := 11) rfl rfl (ev_up (Nat.le_of_ble_eq_true rfl) (sn_Mo_push c48)) ?_
            refine bk_b (q := (275, [(0, .ref 135), (1, .int l1)], [.ref 135])) tb_c_191_3 mx_191 1 rfl ?_
            refine bk_gc tb_c_191_3 rfl rfl (ci := 11) (k := 19) rfl rfl rfl ?_
            refine bk_b (q := (279, [(0, .ref 135), (1, .int l1)], [.int l1, .ref 145])) tb_c_191_3 mx_191 1 rfl ?_
            by_cases g49 : l1 < 0 ∨ 15010 ≤ l1.toNatClampNeg
            · rw [if_pos g49] at h; cases h
            · rw [if_neg g49] at h
              refine bk_a4 tb_c_191_3 rfl rfl rfl g49 ?_
              refine bk_b (q := (283, [(2, .int ((S46.1 145 l1.toNatClampNeg) - (1 : Int32))), (0, .ref 135), (1, .int l1)], [])) tb_c_191_3 mx_191 3 rfl ?_
              exact go_lv (ls_sc rfl rfl (ls_sc rfl rfl (ls_sc rfl rfl ls_nil))) (sn_Mo_work_283 wd_F h)
          · rw [if_neg g45] at h
            by_cases g59 : (S9.1 143 l1.toNatClampNeg) = (5 : Int32)
            · rw [if_pos g59] at h
              refine bk_sw tb_c_191_1 rfl (pc' := 144) (by rw [g59]; rfl) ?_
              refine bk_b (q := (146, [(0, .ref 135), (1, .int l1)], [.ref 135, .ref 135])) tb_c_191_1 mx_191 2 rfl ?_
              refine bk_gc tb_c_191_1 rfl rfl (ci := 11) (k := 18) rfl rfl rfl ?_
              refine bk_b (q := (150, [(0, .ref 135), (1, .int l1)], [.int l1, .ref 144, .ref 135])) tb_c_191_1 mx_191 1 rfl ?_
              by_cases g60 : l1 < 0 ∨ 15010 ≤ l1.toNatClampNeg
              · rw [if_pos g60] at h; cases h
              · rw [if_neg g60] at h
                refine bk_a4 tb_c_191_1 rfl rfl rfl g60 ?_
                obtain ⟨S61, eS61, h⟩ := wd_bx h
                refine bk_pi tb_c_191_1 rfl rfl (ci := 11) (k := 47) rfl rfl rfl rfl ?_
                rw [eS61]
                refine bk_b (q := (317, [(0, .ref 135), (1, .int l1)], [])) tb_c_191_1 mx_191 1 rfl ?_
                exact go_lv ls_nil (sn_Mo_work_317 h)
            · rw [if_neg g59] at h
              by_cases g62 : (S9.1 143 l1.toNatClampNeg) = (6 : Int32)
              · rw [if_pos g62] at h
                refine bk_sw tb_c_191_1 rfl (pc' := 267) (by rw [g62]; rfl) ?_
                refine bk_b (q := (271, [(0, .ref 135), (1, .int l1)], [.int l1, .int (8 : Int32), .ref 135])) tb_c_191_3 mx_191 3 rfl ?_
                obtain ⟨S63, c65, h⟩ := wd_dx h
                refine bk_kv tb_c_191_3 rfl rfl rfl rfl rfl (ci := 11) rfl rfl (ev_up (Nat.le_of_ble_eq_true rfl) (sn_Mo_push c65)) ?_
                refine bk_b (q := (275, [(0, .ref 135), (1, .int l1)], [.ref 135])) tb_c_191_3 mx_191 1 rfl ?_
                refine bk_gc tb_c_191_3 rfl rfl (ci := 11) (k := 19) rfl rfl rfl ?_
                refine bk_b (q := (279, [(0, .ref 135), (1, .int l1)], [.int l1, .ref 145])) tb_c_191_3 mx_191 1 rfl ?_
                by_cases g66 : l1 < 0 ∨ 15010 ≤ l1.toNatClampNeg
                · rw [if_pos g66] at h; cases h
                · rw [if_neg g66] at h
                  refine bk_a4 tb_c_191_3 rfl rfl rfl g66 ?_
                  refine bk_b (q := (283, [(2, .int ((S63.1 145 l1.toNatClampNeg) - (1 : Int32))), (0, .ref 135), (1, .int l1)], [])) tb_c_191_3 mx_191 3 rfl ?_
                  exact go_lv (ls_sc rfl rfl (ls_sc rfl rfl (ls_sc rfl rfl ls_nil))) (sn_Mo_work_283 wd_F h)
              · rw [if_neg g62] at h
                by_cases g67 : (S9.1 143 l1.toNatClampNeg) = (7 : Int32)
                · rw [if_pos g67] at h
                  refine bk_sw tb_c_191_1 rfl (pc' := 157) (by rw [g67]; rfl) ?_
                  refine bk_b (q := (159, [(0, .ref 135), (1, .int l1)], [.ref 135, .ref 135])) tb_c_191_1 mx_191 2 rfl ?_
                  refine bk_gc tb_c_191_1 rfl rfl (ci := 11) (k := 45) rfl rfl rfl ?_
                  refine bk_b (q := (165, [(0, .ref 135), (1, .int l1)], [.ref 135, .int (16 : Int32), .ref 158, .ref 135])) tb_c_191_1 mx_191 2 rfl ?_
                  refine bk_gi tb_c_191_1 rfl rfl (ci := 11) (k := 46) rfl rfl rfl ?_
                  refine bk_b (q := (170, [(0, .ref 135), (1, .int l1)], [.ref 135, .int ((16 : Int32) * (S9.1 135 46)), .ref 158, .ref 135])) tb_c_191_1 mx_191 2 rfl ?_
                  refine bk_gc tb_c_191_1 rfl rfl (ci := 11) (k := 18) rfl rfl rfl ?_
                  refine bk_b (q := (174, [(0, .ref 135), (1, .int l1)], [.int l1, .ref 144, .int ((16 : Int32) * (S9.1 135 46)), .ref 158, .ref 135])) tb_c_191_1 mx_191 1 rfl ?_
                  by_cases g68 : l1 < 0 ∨ 15010 ≤ l1.toNatClampNeg
                  · rw [if_pos g68] at h; cases h
                  · rw [if_neg g68] at h
                    refine bk_a4 tb_c_191_1 rfl rfl rfl g68 ?_
                    refine bk_b (q := (176, [(0, .ref 135), (1, .int l1)], [.int (((16 : Int32) * (S9.1 135 46)) + (S9.1 144 l1.toNatClampNeg)), .ref 158, .ref 135])) tb_c_191_1 mx_191 1 rfl ?_
                    by_cases g69 : (((16 : Int32) * (S9.1 135 46)) + (S9.1 144 l1.toNatClampNeg)) < 0 ∨ 2640 ≤ (((16 : Int32) * (S9.1 135 46)) + (S9.1 144 l1.toNatClampNeg)).toNatClampNeg
                    · rw [if_pos g69] at h; cases h
                    · rw [if_neg g69] at h
                      refine bk_a4 tb_c_191_1 rfl rfl rfl g69 ?_
                      obtain ⟨S70, eS70, h⟩ := wd_bx h
                      refine bk_pi tb_c_191_1 rfl rfl (ci := 11) (k := 47) rfl rfl rfl rfl ?_
                      rw [eS70]
                      refine bk_b (q := (317, [(0, .ref 135), (1, .int l1)], [])) tb_c_191_1 mx_191 1 rfl ?_
                      exact go_lv ls_nil (sn_Mo_work_317 h)
                · rw [if_neg g67] at h
                  refine bk_sw tb_c_191_1 rfl (pc' := 267) (sw_t (t := 267) (fun i h1 h2 => ?_) rfl) ?_
                  · have hi : i = 1 ∨ i = 2 ∨ i = 3 ∨ i = 4 ∨ i = 5 ∨ i = 6 ∨ i = 7 := by omega
                    rcases hi with rfl | rfl | rfl | rfl | rfl | rfl | rfl
                    · exact g13
                    · exact g29
                    · exact g37
                    · exact g45
                    · exact g59
                    · exact g62
                    · exact g67
                  · refine bk_b (q := (271, [(0, .ref 135), (1, .int l1)], [.int l1, .int (8 : Int32), .ref 135])) tb_c_191_3 mx_191 3 rfl ?_
                    obtain ⟨S71, c73, h⟩ := wd_dx h
                    refine bk_kv tb_c_191_3 rfl rfl rfl rfl rfl (ci := 11) rfl rfl (ev_up (Nat.le_of_ble_eq_true rfl) (sn_Mo_push c73)) ?_
                    refine bk_b (q := (275, [(0, .ref 135), (1, .int l1)], [.ref 135])) tb_c_191_3 mx_191 1 rfl ?_
                    refine bk_gc tb_c_191_3 rfl rfl (ci := 11) (k := 19) rfl rfl rfl ?_
                    refine bk_b (q := (279, [(0, .ref 135), (1, .int l1)], [.int l1, .ref 145])) tb_c_191_3 mx_191 1 rfl ?_
                    by_cases g74 : l1 < 0 ∨ 15010 ≤ l1.toNatClampNeg
                    · rw [if_pos g74] at h; cases h
                    · rw [if_neg g74] at h
                      refine bk_a4 tb_c_191_3 rfl rfl rfl g74 ?_
                      refine bk_b (q := (283, [(2, .int ((S71.1 145 l1.toNatClampNeg) - (1 : Int32))), (0, .ref 135), (1, .int l1)], [])) tb_c_191_3 mx_191 3 rfl ?_
                      exact go_lv (ls_sc rfl rfl (ls_sc rfl rfl (ls_sc rfl rfl ls_nil))) (sn_Mo_work_283 wd_F h)
noncomputable def fn_Mo_work_31 (l1 : Int32) (s1 : Int32) (S : wd_S) : Option wd_S :=
  (wd_b (wd_i S 135 52 s1) fun S3 =>
  (if (S3.1 135 52) = 0 then
    (wd_b (wd_i S3 135 48 ((S3.1 135 48) + (1 : Int32))) fun S5 =>
    (wd_b (wd_i S5 135 50 ((S5.1 135 50) + (1 : Int32))) fun S6 =>
    (if (S6.1 135 51) < (S6.1 135 50) then
      fn_Mo_work_85 l1 (S6.1 135 50) S6
    else
      fn_Mo_work_85 l1 (S6.1 135 51) S6)))
  else
    some S3))
set_option maxRecDepth 100000 in
theorem sn_Mo_work_31 {L : Nat} {xs : Nat → Int32} {l1 : Int32} {s1 : Int32} {S : wd_S} {S' : wd_S} (h : fn_Mo_work_31 l1 s1 S = some S') : go_r tb_P L xs 1 191 31 [(0, .ref 135), (1, .int l1)] [.int s1, .ref 135] (wd_k S) (.inl none, wd_k S') := by
  unfold fn_Mo_work_31 at h
  obtain ⟨S3, eS3, h⟩ := wd_bx h
  refine bk_pi tb_c_191_0 rfl rfl (ci := 11) (k := 52) rfl rfl rfl rfl ?_
  rw [eS3]
  refine bk_b (q := (35, [(0, .ref 135), (1, .int l1)], [.ref 135])) tb_c_191_0 mx_191 1 rfl ?_
  refine bk_gi tb_c_191_0 rfl rfl (ci := 11) (k := 52) rfl rfl rfl ?_
  by_cases g4 : (S3.1 135 52) = 0
  · rw [if_pos g4] at h
    refine bk_zt tb_c_191_0 rfl (pc' := 42) rfl (cm_eq_t g4) ?_
    refine bk_b (q := (44, [(0, .ref 135), (1, .int l1)], [.ref 135, .ref 135])) tb_c_191_0 mx_191 2 rfl ?_
    refine bk_gi tb_c_191_0 rfl rfl (ci := 11) (k := 48) rfl rfl rfl ?_
    refine bk_b (q := (49, [(0, .ref 135), (1, .int l1)], [.int ((S3.1 135 48) + (1 : Int32)), .ref 135])) tb_c_191_0 mx_191 2 rfl ?_
    obtain ⟨S5, eS5, h⟩ := wd_bx h
    refine bk_pi tb_c_191_0 rfl rfl (ci := 11) (k := 48) rfl rfl rfl rfl ?_
    rw [eS5]
    refine bk_b (q := (54, [(0, .ref 135), (1, .int l1)], [.ref 135, .ref 135])) tb_c_191_0 mx_191 2 rfl ?_
    refine bk_gi tb_c_191_0 rfl rfl (ci := 11) (k := 50) rfl rfl rfl ?_
    refine bk_b (q := (59, [(0, .ref 135), (1, .int l1)], [.int ((S5.1 135 50) + (1 : Int32)), .ref 135])) tb_c_191_0 mx_191 2 rfl ?_
    obtain ⟨S6, eS6, h⟩ := wd_bx h
    refine bk_pi tb_c_191_0 rfl rfl (ci := 11) (k := 50) rfl rfl rfl rfl ?_
    rw [eS6]
    refine bk_b (q := (64, [(0, .ref 135), (1, .int l1)], [.ref 135, .ref 135])) tb_c_191_0 mx_191 2 rfl ?_
    refine bk_gi tb_c_191_0 rfl rfl (ci := 11) (k := 50) rfl rfl rfl ?_
    refine bk_b (q := (68, [(0, .ref 135), (1, .int l1)], [.ref 135, .int (S6.1 135 50), .ref 135])) tb_c_191_0 mx_191 1 rfl ?_
    refine bk_gi tb_c_191_0 rfl rfl (ci := 11) (k := 51) rfl rfl rfl ?_
    by_cases g7 : (S6.1 135 51) < (S6.1 135 50)
    · rw [if_pos g7] at h
      refine bk_jf tb_c_191_0 rfl (pc' := 74) rfl (t := 81) rfl (cm_le_f g7) ?_
      refine bk_b (q := (75, [(0, .ref 135), (1, .int l1)], [.ref 135, .ref 135])) tb_c_191_0 mx_191 1 rfl ?_
      refine bk_gi tb_c_191_0 rfl rfl (ci := 11) (k := 50) rfl rfl rfl ?_
      refine bk_b (q := (85, [(0, .ref 135), (1, .int l1)], [.int (S6.1 135 50), .ref 135])) tb_c_191_1 mx_191 1 rfl ?_
      exact go_lv (ls_sc rfl rfl (ls_sc rfl rfl ls_nil)) (sn_Mo_work_85 h)
    · rw [if_neg g7] at h
      refine bk_jt tb_c_191_0 rfl (pc' := 81) rfl (cm_le_t g7) ?_
      refine bk_b (q := (82, [(0, .ref 135), (1, .int l1)], [.ref 135, .ref 135])) tb_c_191_1 mx_191 1 rfl ?_
      refine bk_gi tb_c_191_1 rfl rfl (ci := 11) (k := 51) rfl rfl rfl ?_
      exact go_lv (ls_sc rfl rfl (ls_sc rfl rfl ls_nil)) (sn_Mo_work_85 h)
  · rw [if_neg g4] at h
    refine bk_zf tb_c_191_0 rfl (pc' := 41) rfl (t := 42) rfl (cm_eq_f g4) ?_
    cases h
    exact bk_t tb_c_191_0 rfl rfl
/-- SpecialiserModel.work(I)V -/
noncomputable def fn_Mo_work (p1 : Int32) (S : wd_S) : Option wd_S :=
  (if (S.1 135 48) = (S.1 135 49) then
    fn_Mo_work_31 p1 (2 : Int32) S
  else
    (if (S.1 135 50) = (160 : Int32) then
      fn_Mo_work_31 p1 (3 : Int32) S
    else
      fn_Mo_work_31 p1 (0 : Int32) S))
set_option maxRecDepth 100000 in
theorem sn_Mo_work {L : Nat} {xs : Nat → Int32} {p1 : Int32} {S : wd_S} {S' : wd_S} (h : fn_Mo_work p1 S = some S') : ev_r tb_P L xs (1 + 1) 191 [.ref 135, .int p1] (wd_k S) (.inl none, wd_k S') := by
  unfold fn_Mo_work at h
  refine ev_of (Nat.le_of_ble_eq_true rfl) ?_
  show go_r tb_P L xs 1 191 0 [(0, .ref 135), (1, .int p1)] [] (wd_k S) (.inl none, wd_k S')
  refine bk_b (q := (2, [(0, .ref 135), (1, .int p1)], [.ref 135, .ref 135])) tb_c_191_0 mx_191 2 rfl ?_
  refine bk_gi tb_c_191_0 rfl rfl (ci := 11) (k := 48) rfl rfl rfl ?_
  refine bk_b (q := (6, [(0, .ref 135), (1, .int p1)], [.ref 135, .int (S.1 135 48), .ref 135])) tb_c_191_0 mx_191 1 rfl ?_
  refine bk_gi tb_c_191_0 rfl rfl (ci := 11) (k := 49) rfl rfl rfl ?_
  by_cases g1 : (S.1 135 48) = (S.1 135 49)
  · rw [if_pos g1] at h
    refine bk_jf tb_c_191_0 rfl (pc' := 12) rfl (t := 16) rfl (cm_ne_f g1) ?_
    refine bk_b (q := (31, [(0, .ref 135), (1, .int p1)], [.int (2 : Int32), .ref 135])) tb_c_191_0 mx_191 2 rfl ?_
    exact go_lv (ls_sc rfl rfl (ls_sc rfl rfl ls_nil)) (sn_Mo_work_31 h)
  · rw [if_neg g1] at h
    refine bk_jt tb_c_191_0 rfl (pc' := 16) rfl (cm_ne_t g1) ?_
    refine bk_b (q := (17, [(0, .ref 135), (1, .int p1)], [.ref 135, .ref 135])) tb_c_191_0 mx_191 1 rfl ?_
    refine bk_gi tb_c_191_0 rfl rfl (ci := 11) (k := 50) rfl rfl rfl ?_
    refine bk_b (q := (23, [(0, .ref 135), (1, .int p1)], [.int (160 : Int32), .int (S.1 135 50), .ref 135])) tb_c_191_0 mx_191 1 rfl ?_
    by_cases g2 : (S.1 135 50) = (160 : Int32)
    · rw [if_pos g2] at h
      refine bk_jf tb_c_191_0 rfl (pc' := 26) rfl (t := 30) rfl (cm_ne_f g2) ?_
      refine bk_b (q := (31, [(0, .ref 135), (1, .int p1)], [.int (3 : Int32), .ref 135])) tb_c_191_0 mx_191 2 rfl ?_
      exact go_lv (ls_sc rfl rfl (ls_sc rfl rfl ls_nil)) (sn_Mo_work_31 h)
    · rw [if_neg g2] at h
      refine bk_jt tb_c_191_0 rfl (pc' := 30) rfl (cm_ne_t g2) ?_
      refine bk_b (q := (31, [(0, .ref 135), (1, .int p1)], [.int (0 : Int32), .ref 135])) tb_c_191_0 mx_191 1 rfl ?_
      exact go_lv (ls_sc rfl rfl (ls_sc rfl rfl ls_nil)) (sn_Mo_work_31 h)
