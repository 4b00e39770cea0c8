/-! Methods as functions: printed by wip/whole/gen_fn.py. -/
theorem mx_190 : mi_mx tb_P 190 = 5 := rfl
noncomputable def fn_Mo_goes_431 (s0 : Int32) (S : wd_S) : Option (Int32 × wd_S) :=
  some (s0, S)
set_option maxRecDepth 100000 in
theorem sn_Mo_goes_431 {L : Nat} {xs : Nat → Int32} {s0 : Int32} {S : wd_S} {x : Int32} {S' : wd_S} (h : fn_Mo_goes_431 s0 S = some (x, S')) : go_r tb_P L xs 2 190 431 [] [.int s0] (wd_k S) (.inl (some (.int x)), wd_k S') := by
  unfold fn_Mo_goes_431 at h
  cases h
  exact bk_t tb_c_190_5 rfl rfl
noncomputable def fn_Mo_goes_416 (S : wd_S) : Option (Int32 × wd_S) :=
  (if (S.1 135 52) = 0 then
    fn_Mo_goes_431 (1 : Int32) S
  else
    fn_Mo_goes_431 (S.1 135 52) S)
set_option maxRecDepth 100000 in
theorem sn_Mo_goes_416 {L : Nat} {xs : Nat → Int32} {S : wd_S} {x : Int32} {S' : wd_S} (h : fn_Mo_goes_416  S = some (x, S')) : go_r tb_P L xs 2 190 416 [(0, .ref 135)] [] (wd_k S) (.inl (some (.int x)), wd_k S') := by
  unfold fn_Mo_goes_416 at h
  refine bk_b (q := (417, [(0, .ref 135)], [.ref 135])) tb_c_190_5 mx_190 1 rfl ?_
  refine bk_gi tb_c_190_5 rfl rfl (ci := 11) (k := 52) rfl rfl rfl ?_
  by_cases g13 : (S.1 135 52) = 0
  · rw [if_pos g13] at h
    refine bk_zf tb_c_190_5 rfl (pc' := 423) rfl (t := 427) rfl (cm_ne_f g13) ?_
    refine bk_b (q := (431, [(0, .ref 135)], [.int (1 : Int32)])) tb_c_190_5 mx_190 2 rfl ?_
    exact go_lv ls_nil (sn_Mo_goes_431 h)
  · rw [if_neg g13] at h
    refine bk_zt tb_c_190_5 rfl (pc' := 427) rfl (cm_ne_t g13) ?_
    refine bk_b (q := (428, [(0, .ref 135)], [.ref 135])) tb_c_190_5 mx_190 1 rfl ?_
    refine bk_gi tb_c_190_5 rfl rfl (ci := 11) (k := 52) rfl rfl rfl ?_
    exact go_lv ls_nil (sn_Mo_goes_431 h)
noncomputable def fn_Mo_goes_413 (kk46 : wd_S → Option (Int32 × wd_S)) (S : wd_S) : Option (Int32 × wd_S) :=
  kk46  S
set_option maxRecDepth 100000 in
theorem sn_Mo_goes_413 {L : Nat} {xs : Nat → Int32} {kk46 : wd_S → Option (Int32 × wd_S)} (hk46 : ∀ {S : wd_S} {x : Int32} {S' : wd_S}, kk46  S = some (x, S') → go_r tb_P L xs 2 190 46 [(0, .ref 135)] [] (wd_k S) (.inl (some (.int x)), wd_k S')) {S : wd_S} {x : Int32} {S' : wd_S} (h : fn_Mo_goes_413 kk46  S = some (x, S')) : go_r tb_P L xs 2 190 413 [(0, .ref 135)] [] (wd_k S) (.inl (some (.int x)), wd_k S') := by
  unfold fn_Mo_goes_413 at h
  refine bk_b (q := (46, [(0, .ref 135)], [])) tb_c_190_5 mx_190 1 rfl ?_
  exact go_lv (ls_sc rfl rfl ls_nil) (hk46 h)
noncomputable def fn_Mo_goes_241 (kk46 : wd_S → Option (Int32 × wd_S)) (s1 : Int32) (s2 : Int32) (S : wd_S) : Option (Int32 × wd_S) :=
  (wd_d (fn_Mo_push s1 s2 S) fun S40 =>
  fn_Mo_goes_413 kk46  S40)
set_option maxRecDepth 100000 in
theorem sn_Mo_goes_241 {L : Nat} {xs : Nat → Int32} {kk46 : wd_S → Option (Int32 × wd_S)} (hk46 : ∀ {S : wd_S} {x : Int32} {S' : wd_S}, kk46  S = some (x, S') → go_r tb_P L xs 2 190 46 [(0, .ref 135)] [] (wd_k S) (.inl (some (.int x)), wd_k S')) {s1 : Int32} {s2 : Int32} {S : wd_S} {x : Int32} {S' : wd_S} (h : fn_Mo_goes_241 kk46 s1 s2 S = some (x, S')) : go_r tb_P L xs 2 190 241 [(0, .ref 135)] [.int s2, .int s1, .ref 135] (wd_k S) (.inl (some (.int x)), wd_k S') := by
  unfold fn_Mo_goes_241 at h
  obtain ⟨S40, c42, h⟩ := wd_dx h
  refine bk_kv tb_c_190_2 rfl rfl rfl rfl rfl (ci := 11) rfl rfl (ev_up (Nat.le_of_ble_eq_true rfl) (sn_Mo_push c42)) ?_
  refine bk_b (q := (413, [(0, .ref 135)], [])) tb_c_190_2 mx_190 1 rfl ?_
  exact go_lv (ls_sc rfl rfl ls_nil) (sn_Mo_goes_413 hk46 h)
noncomputable def fn_Mo_goes_397 (kk46 : wd_S → Option (Int32 × wd_S)) (s1 : Int32) (s2 : Int32) (S : wd_S) : Option (Int32 × wd_S) :=
  (wd_d (fn_Mo_push s1 s2 S) fun S64 =>
  fn_Mo_goes_413 kk46  S64)
set_option maxRecDepth 100000 in
theorem sn_Mo_goes_397 {L : Nat} {xs : Nat → Int32} {kk46 : wd_S → Option (Int32 × wd_S)} (hk46 : ∀ {S : wd_S} {x : Int32} {S' : wd_S}, kk46  S = some (x, S') → go_r tb_P L xs 2 190 46 [(0, .ref 135)] [] (wd_k S) (.inl (some (.int x)), wd_k S')) {s1 : Int32} {s2 : Int32} {S : wd_S} {x : Int32} {S' : wd_S} (h : fn_Mo_goes_397 kk46 s1 s2 S = some (x, S')) : go_r tb_P L xs 2 190 397 [(0, .ref 135)] [.int s2, .int s1, .ref 135] (wd_k S) (.inl (some (.int x)), wd_k S') := by
  unfold fn_Mo_goes_397 at h
  obtain ⟨S64, c66, h⟩ := wd_dx h
  refine bk_kv tb_c_190_4 rfl rfl rfl rfl rfl (ci := 11) rfl rfl (ev_up (Nat.le_of_ble_eq_true rfl) (sn_Mo_push c66)) ?_
  refine bk_b (q := (413, [(0, .ref 135)], [])) tb_c_190_4 mx_190 1 rfl ?_
  exact go_lv (ls_sc rfl rfl ls_nil) (sn_Mo_goes_413 hk46 h)
noncomputable def fn_Mo_goes_312 (kk46 : wd_S → Option (Int32 × wd_S)) : Nat → Int32 → Int32 → wd_S → Option (Int32 × wd_S)
  | 0, _, _, _ => none
  | n + 1, l3, l4, S =>
    (if l3 < 0 ∨ 15010 ≤ l3.toNatClampNeg then none else
    (if l4 < (S.1 145 l3.toNatClampNeg) then
      (if ((S.1 135 44) + l4) < 0 ∨ 4000 ≤ ((S.1 135 44) + l4).toNatClampNeg then none else
      (if (((16 : Int32) * (S.1 135 46)) + l4) < 0 ∨ 2640 ≤ (((16 : Int32) * (S.1 135 46)) + l4).toNatClampNeg then none else
      (wd_b (wd_i S 158 (((16 : Int32) * (S.1 135 46)) + l4).toNatClampNeg (S.1 157 ((S.1 135 44) + l4).toNatClampNeg)) fun S71 =>
      fn_Mo_goes_312 kk46 n l3 (l4 + (1 : Int32)) S71)))
    else
      (wd_d (fn_Mo_push (9 : Int32) l3 S) fun S58 =>
      (if l3 < (3004 : Int32) then
        (if l3 < 0 ∨ 15010 ≤ l3.toNatClampNeg then none else
        (if (S58.1 146 l3.toNatClampNeg) < 0 ∨ 96 ≤ (S58.1 146 l3.toNatClampNeg).toNatClampNeg then none else
        fn_Mo_goes_397 kk46 (1 : Int32) (S58.1 140 (S58.1 146 l3.toNatClampNeg).toNatClampNeg) S58))
      else
        (if l3 < 0 ∨ 15010 ≤ l3.toNatClampNeg then none else
        (if (S58.1 146 l3.toNatClampNeg) < 0 ∨ 160 ≤ (S58.1 146 l3.toNatClampNeg).toNatClampNeg then none else
        fn_Mo_goes_397 kk46 (1 : Int32) (S58.1 162 (S58.1 146 l3.toNatClampNeg).toNatClampNeg) S58))))))
set_option maxRecDepth 100000 in
theorem sn_Mo_goes_312 {L : Nat} {xs : Nat → Int32} {kk46 : wd_S → Option (Int32 × wd_S)} (hk46 : ∀ {S : wd_S} {x : Int32} {S' : wd_S}, kk46  S = some (x, S') → go_r tb_P L xs 2 190 46 [(0, .ref 135)] [] (wd_k S) (.inl (some (.int x)), wd_k S')) : ∀ (n : Nat) {l3 : Int32} {l4 : Int32} {S : wd_S} {x : Int32} {S' : wd_S}, fn_Mo_goes_312 kk46 n l3 l4 S = some (x, S') → go_r tb_P L xs 2 190 312 [(0, .ref 135), (3, .int l3), (4, .int l4)] [] (wd_k S) (.inl (some (.int x)), wd_k S') := by
  intro n
  induction n with
  | zero => intro l3 l4 S x S'  h; cases h
  | succ n ih =>
    intro l3 l4 S x S'  h
    rw [fn_Mo_goes_312] at h
    refine bk_b (q := (315, [(0, .ref 135), (3, .int l3), (4, .int l4)], [.ref 135, .int l4])) tb_c_190_3 mx_190 2 rfl ?_
    refine bk_gc tb_c_190_3 rfl rfl (ci := 11) (k := 19) rfl rfl rfl ?_
    refine bk_b (q := (319, [(0, .ref 135), (3, .int l3), (4, .int l4)], [.int l3, .ref 145, .int l4])) tb_c_190_3 mx_190 1 rfl ?_
    by_cases g56 : l3 < 0 ∨ 15010 ≤ l3.toNatClampNeg
    · rw [if_pos g56] at h; cases h
    · rw [if_neg g56] at h
      refine bk_a4 tb_c_190_3 rfl rfl rfl g56 ?_
      by_cases g57 : l4 < (S.1 145 l3.toNatClampNeg)
      · rw [if_pos g57] at h
        refine bk_jf tb_c_190_3 rfl (pc' := 323) rfl (t := 356) rfl (cm_ge_f g57) ?_
        refine bk_b (q := (324, [(0, .ref 135), (3, .int l3), (4, .int l4)], [.ref 135])) tb_c_190_3 mx_190 1 rfl ?_
        refine bk_gc tb_c_190_3 rfl rfl (ci := 11) (k := 45) rfl rfl rfl ?_
        refine bk_b (q := (330, [(0, .ref 135), (3, .int l3), (4, .int l4)], [.ref 135, .int (16 : Int32), .ref 158])) tb_c_190_3 mx_190 2 rfl ?_
        refine bk_gi tb_c_190_4 rfl rfl (ci := 11) (k := 46) rfl rfl rfl ?_
        refine bk_b (q := (338, [(0, .ref 135), (3, .int l3), (4, .int l4)], [.ref 135, .int (((16 : Int32) * (S.1 135 46)) + l4), .ref 158])) tb_c_190_4 mx_190 4 rfl ?_
        refine bk_gc tb_c_190_4 rfl rfl (ci := 11) (k := 43) rfl rfl rfl ?_
        refine bk_b (q := (342, [(0, .ref 135), (3, .int l3), (4, .int l4)], [.ref 135, .ref 157, .int (((16 : Int32) * (S.1 135 46)) + l4), .ref 158])) tb_c_190_4 mx_190 1 rfl ?_
        refine bk_gi tb_c_190_4 rfl rfl (ci := 11) (k := 44) rfl rfl rfl ?_
        refine bk_b (q := (348, [(0, .ref 135), (3, .int l3), (4, .int l4)], [.int ((S.1 135 44) + l4), .ref 157, .int (((16 : Int32) * (S.1 135 46)) + l4), .ref 158])) tb_c_190_4 mx_190 2 rfl ?_
        by_cases g69 : ((S.1 135 44) + l4) < 0 ∨ 4000 ≤ ((S.1 135 44) + l4).toNatClampNeg
        · rw [if_pos g69] at h; cases h
        · rw [if_neg g69] at h
          refine bk_a4 tb_c_190_4 rfl rfl rfl g69 ?_
          by_cases g70 : (((16 : Int32) * (S.1 135 46)) + l4) < 0 ∨ 2640 ≤ (((16 : Int32) * (S.1 135 46)) + l4).toNatClampNeg
          · rw [if_pos g70] at h; cases h
          · rw [if_neg g70] at h
            obtain ⟨S71, eS71, h⟩ := wd_bx h
            refine bk_s4 tb_c_190_4 rfl rfl rfl g70 ?_
            rw [eS71]
            refine bk_b (q := (312, [(4, .int (l4 + (1 : Int32))), (0, .ref 135), (3, .int l3)], [])) tb_c_190_4 mx_190 2 rfl ?_
            exact go_lv (ls_sc rfl rfl (ls_sc rfl rfl (ls_sc rfl rfl ls_nil))) (ih h)
      · rw [if_neg g57] at h
        refine bk_jt tb_c_190_3 rfl (pc' := 356) rfl (cm_ge_t g57) ?_
        refine bk_b (q := (360, [(0, .ref 135), (3, .int l3), (4, .int l4)], [.int l3, .int (9 : Int32), .ref 135])) tb_c_190_4 mx_190 3 rfl ?_
        obtain ⟨S58, c60, h⟩ := wd_dx h
        refine bk_kv tb_c_190_4 rfl rfl rfl rfl rfl (ci := 11) rfl rfl (ev_up (Nat.le_of_ble_eq_true rfl) (sn_Mo_push c60)) ?_
        refine bk_b (q := (369, [(0, .ref 135), (3, .int l3), (4, .int l4)], [.int (3004 : Int32), .int l3, .int (1 : Int32), .ref 135])) tb_c_190_4 mx_190 4 rfl ?_
        by_cases g61 : l3 < (3004 : Int32)
        · rw [if_pos g61] at h
          refine bk_jf tb_c_190_4 rfl (pc' := 372) rfl (t := 386) rfl (cm_ge_f g61) ?_
          refine bk_b (q := (373, [(0, .ref 135), (3, .int l3), (4, .int l4)], [.ref 135, .int (1 : Int32), .ref 135])) tb_c_190_4 mx_190 1 rfl ?_
          refine bk_gc tb_c_190_4 rfl rfl (ci := 11) (k := 14) rfl rfl rfl ?_
          refine bk_b (q := (377, [(0, .ref 135), (3, .int l3), (4, .int l4)], [.ref 135, .ref 140, .int (1 : Int32), .ref 135])) tb_c_190_4 mx_190 1 rfl ?_
          refine bk_gc tb_c_190_4 rfl rfl (ci := 11) (k := 20) rfl rfl rfl ?_
          refine bk_b (q := (381, [(0, .ref 135), (3, .int l3), (4, .int l4)], [.int l3, .ref 146, .ref 140, .int (1 : Int32), .ref 135])) tb_c_190_4 mx_190 1 rfl ?_
          by_cases g67 : l3 < 0 ∨ 15010 ≤ l3.toNatClampNeg
          · rw [if_pos g67] at h; cases h
          · rw [if_neg g67] at h
            refine bk_a4 tb_c_190_4 rfl rfl rfl g67 ?_
            by_cases g68 : (S58.1 146 l3.toNatClampNeg) < 0 ∨ 96 ≤ (S58.1 146 l3.toNatClampNeg).toNatClampNeg
            · rw [if_pos g68] at h; cases h
            · rw [if_neg g68] at h
              refine bk_a4 tb_c_190_4 rfl rfl rfl g68 ?_
              refine bk_b (q := (397, [(0, .ref 135), (3, .int l3), (4, .int l4)], [.int (S58.1 140 (S58.1 146 l3.toNatClampNeg).toNatClampNeg), .int (1 : Int32), .ref 135])) tb_c_190_4 mx_190 1 rfl ?_
              exact go_lv (ls_sc rfl rfl ls_nil) (sn_Mo_goes_397 hk46 h)
        · rw [if_neg g61] at h
          refine bk_jt tb_c_190_4 rfl (pc' := 386) rfl (cm_ge_t g61) ?_
          refine bk_b (q := (387, [(0, .ref 135), (3, .int l3), (4, .int l4)], [.ref 135, .int (1 : Int32), .ref 135])) tb_c_190_4 mx_190 1 rfl ?_
          refine bk_gc tb_c_190_4 rfl rfl (ci := 11) (k := 56) rfl rfl rfl ?_
          refine bk_b (q := (391, [(0, .ref 135), (3, .int l3), (4, .int l4)], [.ref 135, .ref 162, .int (1 : Int32), .ref 135])) tb_c_190_4 mx_190 1 rfl ?_
          refine bk_gc tb_c_190_4 rfl rfl (ci := 11) (k := 20) rfl rfl rfl ?_
          refine bk_b (q := (395, [(0, .ref 135), (3, .int l3), (4, .int l4)], [.int l3, .ref 146, .ref 162, .int (1 : Int32), .ref 135])) tb_c_190_4 mx_190 1 rfl ?_
          by_cases g62 : l3 < 0 ∨ 15010 ≤ l3.toNatClampNeg
          · rw [if_pos g62] at h; cases h
          · rw [if_neg g62] at h
            refine bk_a4 tb_c_190_4 rfl rfl rfl g62 ?_
            by_cases g63 : (S58.1 146 l3.toNatClampNeg) < 0 ∨ 160 ≤ (S58.1 146 l3.toNatClampNeg).toNatClampNeg
            · rw [if_pos g63] at h; cases h
            · rw [if_neg g63] at h
              refine bk_a4 tb_c_190_4 rfl rfl rfl g63 ?_
              exact go_lv (ls_sc rfl rfl ls_nil) (sn_Mo_goes_397 hk46 h)
noncomputable def fn_Mo_goes_46 : Nat → wd_S → Option (Int32 × wd_S)
  | 0, _ => none
  | n + 1, S =>
    (if 0 < (S.1 135 35) then
      (if (S.1 135 52) = 0 then
        (wd_b (wd_i S 135 35 ((S.1 135 35) - (1 : Int32))) fun S15 =>
        (if (S15.1 135 35) < 0 ∨ 4000 ≤ (S15.1 135 35).toNatClampNeg then none else
        (if (S15.1 135 35) < 0 ∨ 4000 ≤ (S15.1 135 35).toNatClampNeg then none else
        (if (S15.1 152 (S15.1 135 35).toNatClampNeg) = (1 : Int32) then
          (wd_d (fn_Mo_work (S15.1 153 (S15.1 135 35).toNatClampNeg) S15) fun S19 =>
          fn_Mo_goes_413 (fn_Mo_goes_46 n)  S19)
        else
        (if (S15.1 152 (S15.1 135 35).toNatClampNeg) = (2 : Int32) then
          (wd_b (wd_i S15 135 50 ((S15.1 135 50) - (1 : Int32))) fun S23 =>
          fn_Mo_goes_413 (fn_Mo_goes_46 n)  S23)
        else
        (if (S15.1 152 (S15.1 135 35).toNatClampNeg) = (3 : Int32) then
          (wd_b (wd_i S15 135 46 ((S15.1 135 46) - (1 : Int32))) fun S25 =>
          fn_Mo_goes_413 (fn_Mo_goes_46 n)  S25)
        else
        (if (S15.1 152 (S15.1 135 35).toNatClampNeg) = (4 : Int32) then
          (if (S15.1 135 44) < 0 ∨ 4000 ≤ (S15.1 135 44).toNatClampNeg then none else
          (wd_b (wd_i S15 157 (S15.1 135 44).toNatClampNeg (S15.1 135 47)) fun S28 =>
          (wd_b (wd_i S28 135 44 ((S28.1 135 44) + (1 : Int32))) fun S29 =>
          fn_Mo_goes_413 (fn_Mo_goes_46 n)  S29)))
        else
        (if (S15.1 152 (S15.1 135 35).toNatClampNeg) = (5 : Int32) then
          (wd_b (wd_i S15 135 44 ((S15.1 135 44) - (1 : Int32))) fun S31 =>
          (if (S31.1 135 44) < 0 ∨ 4000 ≤ (S31.1 135 44).toNatClampNeg then none else
          (wd_c (fn_Mo_applied (S15.1 153 (S15.1 135 35).toNatClampNeg) (S31.1 157 (S31.1 135 44).toNatClampNeg) (S31.1 135 47) S31) fun x34 S33 =>
          (wd_b (wd_i S33 135 47 x34) fun S36 =>
          fn_Mo_goes_413 (fn_Mo_goes_46 n)  S36))))
        else
        (if (S15.1 152 (S15.1 135 35).toNatClampNeg) = (6 : Int32) then
          (if (S15.1 135 47) = 0 then
            (if (S15.1 153 (S15.1 135 35).toNatClampNeg) < 0 ∨ 15010 ≤ (S15.1 153 (S15.1 135 35).toNatClampNeg).toNatClampNeg then none else
            fn_Mo_goes_241 (fn_Mo_goes_46 n) (1 : Int32) (S15.1 146 (S15.1 153 (S15.1 135 35).toNatClampNeg).toNatClampNeg) S15)
          else
            (if (S15.1 153 (S15.1 135 35).toNatClampNeg) < 0 ∨ 15010 ≤ (S15.1 153 (S15.1 135 35).toNatClampNeg).toNatClampNeg then none else
            fn_Mo_goes_241 (fn_Mo_goes_46 n) (1 : Int32) (S15.1 145 (S15.1 153 (S15.1 135 35).toNatClampNeg).toNatClampNeg) S15))
        else
        (if (S15.1 152 (S15.1 135 35).toNatClampNeg) = (7 : Int32) then
          (if (S15.1 153 (S15.1 135 35).toNatClampNeg) < 0 ∨ 15010 ≤ (S15.1 153 (S15.1 135 35).toNatClampNeg).toNatClampNeg then none else
          (if (((16 : Int32) * (S15.1 135 46)) + (S15.1 146 (S15.1 153 (S15.1 135 35).toNatClampNeg).toNatClampNeg)) < 0 ∨ 2640 ≤ (((16 : Int32) * (S15.1 135 46)) + (S15.1 146 (S15.1 153 (S15.1 135 35).toNatClampNeg).toNatClampNeg)).toNatClampNeg then none else
          (wd_b (wd_i S15 158 (((16 : Int32) * (S15.1 135 46)) + (S15.1 146 (S15.1 153 (S15.1 135 35).toNatClampNeg).toNatClampNeg)).toNatClampNeg (S15.1 135 47)) fun S47 =>
          (if (S15.1 153 (S15.1 135 35).toNatClampNeg) < 0 ∨ 15010 ≤ (S15.1 153 (S15.1 135 35).toNatClampNeg).toNatClampNeg then none else
          (wd_d (fn_Mo_push (1 : Int32) (S47.1 145 (S15.1 153 (S15.1 135 35).toNatClampNeg).toNatClampNeg) S47) fun S49 =>
          fn_Mo_goes_413 (fn_Mo_goes_46 n)  S49)))))
        else
        (if (S15.1 152 (S15.1 135 35).toNatClampNeg) = (8 : Int32) then
          (wd_b (wd_i S15 135 46 ((S15.1 135 46) + (1 : Int32))) fun S53 =>
          (if (S15.1 153 (S15.1 135 35).toNatClampNeg) < 0 ∨ 15010 ≤ (S15.1 153 (S15.1 135 35).toNatClampNeg).toNatClampNeg then none else
          (wd_b (wd_i S53 135 44 ((S53.1 135 44) - (S53.1 145 (S15.1 153 (S15.1 135 35).toNatClampNeg).toNatClampNeg))) fun S55 =>
          fn_Mo_goes_312 (fn_Mo_goes_46 n) wd_F (S15.1 153 (S15.1 135 35).toNatClampNeg) (0 : Int32) S55)))
        else
        (wd_b (wd_i S15 135 46 ((S15.1 135 46) - (1 : Int32))) fun S72 =>
        fn_Mo_goes_413 (fn_Mo_goes_46 n)  S72))))))))))))
      else
        fn_Mo_goes_416  S)
    else
      fn_Mo_goes_416  S)
set_option maxRecDepth 100000 in
theorem sn_Mo_goes_46 {L : Nat} {xs : Nat → Int32} : ∀ (n : Nat) {S : wd_S} {x : Int32} {S' : wd_S}, fn_Mo_goes_46 n  S = some (x, S') → go_r tb_P L xs 2 190 46 [(0, .ref 135)] [] (wd_k S) (.inl (some (.int x)), wd_k S') := by
  intro n
  induction n with
  | zero => intro  S x S'  h; cases h
  | succ n ih =>
    intro  S x S'  h
    rw [fn_Mo_goes_46] at h
    refine bk_b (q := (47, [(0, .ref 135)], [.ref 135])) tb_c_190_0 mx_190 1 rfl ?_
    refine bk_gi tb_c_190_0 rfl rfl (ci := 11) (k := 35) rfl rfl rfl ?_
    by_cases g12 : 0 < (S.1 135 35)
    · rw [if_pos g12] at h
      refine bk_zf tb_c_190_0 rfl (pc' := 53) rfl (t := 416) rfl (cm_le_f g12) ?_
      refine bk_b (q := (54, [(0, .ref 135)], [.ref 135])) tb_c_190_0 mx_190 1 rfl ?_
      refine bk_gi tb_c_190_0 rfl rfl (ci := 11) (k := 52) rfl rfl rfl ?_
      by_cases g14 : (S.1 135 52) = 0
      · rw [if_pos g14] at h
        refine bk_zf tb_c_190_0 rfl (pc' := 60) rfl (t := 416) rfl (cm_ne_f g14) ?_
        refine bk_b (q := (62, [(0, .ref 135)], [.ref 135, .ref 135])) tb_c_190_0 mx_190 2 rfl ?_
        refine bk_gi tb_c_190_0 rfl rfl (ci := 11) (k := 35) rfl rfl rfl ?_
        refine bk_b (q := (67, [(0, .ref 135)], [.int ((S.1 135 35) - (1 : Int32)), .ref 135])) tb_c_190_0 mx_190 2 rfl ?_
        obtain ⟨S15, eS15, h⟩ := wd_bx h
        refine bk_pi tb_c_190_0 rfl rfl (ci := 11) (k := 35) rfl rfl rfl rfl ?_
        rw [eS15]
        refine bk_b (q := (71, [(0, .ref 135)], [.ref 135])) tb_c_190_1 mx_190 1 rfl ?_
        refine bk_gc tb_c_190_1 rfl rfl (ci := 11) (k := 33) rfl rfl rfl ?_
        refine bk_b (q := (75, [(0, .ref 135)], [.ref 135, .ref 153])) tb_c_190_1 mx_190 1 rfl ?_
        refine bk_gi tb_c_190_1 rfl rfl (ci := 11) (k := 35) rfl rfl rfl ?_
        by_cases g16 : (S15.1 135 35) < 0 ∨ 4000 ≤ (S15.1 135 35).toNatClampNeg
        · rw [if_pos g16] at h; cases h
        · rw [if_neg g16] at h
          refine bk_a4 tb_c_190_1 rfl rfl rfl g16 ?_
          refine bk_b (q := (81, [(3, .int (S15.1 153 (S15.1 135 35).toNatClampNeg)), (0, .ref 135)], [.ref 135])) tb_c_190_1 mx_190 2 rfl ?_
          refine bk_gc tb_c_190_1 rfl rfl (ci := 11) (k := 32) rfl rfl rfl ?_
          refine bk_b (q := (85, [(3, .int (S15.1 153 (S15.1 135 35).toNatClampNeg)), (0, .ref 135)], [.ref 135, .ref 152])) tb_c_190_1 mx_190 1 rfl ?_
          refine bk_gi tb_c_190_1 rfl rfl (ci := 11) (k := 35) rfl rfl rfl ?_
          by_cases g17 : (S15.1 135 35) < 0 ∨ 4000 ≤ (S15.1 135 35).toNatClampNeg
          · rw [if_pos g17] at h; cases h
          · rw [if_neg g17] at h
            refine bk_a4 tb_c_190_1 rfl rfl rfl g17 ?_
            by_cases g18 : (S15.1 152 (S15.1 135 35).toNatClampNeg) = (1 : Int32)
            · rw [if_pos g18] at h
              refine bk_sw tb_c_190_1 rfl (pc' := 136) (by rw [g18]; rfl) ?_
              refine bk_b (q := (138, [(3, .int (S15.1 153 (S15.1 135 35).toNatClampNeg)), (0, .ref 135)], [.int (S15.1 153 (S15.1 135 35).toNatClampNeg), .ref 135])) tb_c_190_1 mx_190 2 rfl ?_
              obtain ⟨S19, c21, h⟩ := wd_dx h
              refine bk_kv tb_c_190_1 rfl rfl rfl rfl rfl (ci := 11) rfl rfl (ev_up (Nat.le_of_ble_eq_true rfl) (sn_Mo_work c21)) ?_
              refine bk_b (q := (413, [(3, .int (S15.1 153 (S15.1 135 35).toNatClampNeg)), (0, .ref 135)], [])) tb_c_190_1 mx_190 1 rfl ?_
              exact go_lv (ls_sc rfl rfl ls_nil) (sn_Mo_goes_413 ih h)
            · rw [if_neg g18] at h
              by_cases g22 : (S15.1 152 (S15.1 135 35).toNatClampNeg) = (2 : Int32)
              · rw [if_pos g22] at h
                refine bk_sw tb_c_190_1 rfl (pc' := 144) (by rw [g22]; rfl) ?_
                refine bk_b (q := (146, [(3, .int (S15.1 153 (S15.1 135 35).toNatClampNeg)), (0, .ref 135)], [.ref 135, .ref 135])) tb_c_190_1 mx_190 2 rfl ?_
                refine bk_gi tb_c_190_1 rfl rfl (ci := 11) (k := 50) rfl rfl rfl ?_
                refine bk_b (q := (151, [(3, .int (S15.1 153 (S15.1 135 35).toNatClampNeg)), (0, .ref 135)], [.int ((S15.1 135 50) - (1 : Int32)), .ref 135])) tb_c_190_1 mx_190 2 rfl ?_
                obtain ⟨S23, eS23, h⟩ := wd_bx h
                refine bk_pi tb_c_190_1 rfl rfl (ci := 11) (k := 50) rfl rfl rfl rfl ?_
                rw [eS23]
                refine bk_b (q := (413, [(3, .int (S15.1 153 (S15.1 135 35).toNatClampNeg)), (0, .ref 135)], [])) tb_c_190_1 mx_190 1 rfl ?_
                exact go_lv (ls_sc rfl rfl ls_nil) (sn_Mo_goes_413 ih h)
              · rw [if_neg g22] at h
                by_cases g24 : (S15.1 152 (S15.1 135 35).toNatClampNeg) = (3 : Int32)
                · rw [if_pos g24] at h
                  refine bk_sw tb_c_190_1 rfl (pc' := 403) (by rw [g24]; rfl) ?_
                  refine bk_b (q := (405, [(3, .int (S15.1 153 (S15.1 135 35).toNatClampNeg)), (0, .ref 135)], [.ref 135, .ref 135])) tb_c_190_5 mx_190 2 rfl ?_
                  refine bk_gi tb_c_190_5 rfl rfl (ci := 11) (k := 46) rfl rfl rfl ?_
                  refine bk_b (q := (410, [(3, .int (S15.1 153 (S15.1 135 35).toNatClampNeg)), (0, .ref 135)], [.int ((S15.1 135 46) - (1 : Int32)), .ref 135])) tb_c_190_5 mx_190 2 rfl ?_
                  obtain ⟨S25, eS25, h⟩ := wd_bx h
                  refine bk_pi tb_c_190_5 rfl rfl (ci := 11) (k := 46) rfl rfl rfl rfl ?_
                  rw [eS25]
                  exact go_lv (ls_sc rfl rfl ls_nil) (sn_Mo_goes_413 ih h)
                · rw [if_neg g24] at h
                  by_cases g26 : (S15.1 152 (S15.1 135 35).toNatClampNeg) = (4 : Int32)
                  · rw [if_pos g26] at h
                    refine bk_sw tb_c_190_1 rfl (pc' := 157) (by rw [g26]; rfl) ?_
                    refine bk_b (q := (158, [(3, .int (S15.1 153 (S15.1 135 35).toNatClampNeg)), (0, .ref 135)], [.ref 135])) tb_c_190_1 mx_190 1 rfl ?_
                    refine bk_gc tb_c_190_1 rfl rfl (ci := 11) (k := 43) rfl rfl rfl ?_
                    refine bk_b (q := (162, [(3, .int (S15.1 153 (S15.1 135 35).toNatClampNeg)), (0, .ref 135)], [.ref 135, .ref 157])) tb_c_190_1 mx_190 1 rfl ?_
                    refine bk_gi tb_c_190_1 rfl rfl (ci := 11) (k := 44) rfl rfl rfl ?_
                    refine bk_b (q := (166, [(3, .int (S15.1 153 (S15.1 135 35).toNatClampNeg)), (0, .ref 135)], [.ref 135, .int (S15.1 135 44), .ref 157])) tb_c_190_1 mx_190 1 rfl ?_
                    refine bk_gi tb_c_190_1 rfl rfl (ci := 11) (k := 47) rfl rfl rfl ?_
                    by_cases g27 : (S15.1 135 44) < 0 ∨ 4000 ≤ (S15.1 135 44).toNatClampNeg
                    · rw [if_pos g27] at h; cases h
                    · rw [if_neg g27] at h
                      obtain ⟨S28, eS28, h⟩ := wd_bx h
                      refine bk_s4 tb_c_190_1 rfl rfl rfl g27 ?_
                      rw [eS28]
                      refine bk_b (q := (172, [(3, .int (S15.1 153 (S15.1 135 35).toNatClampNeg)), (0, .ref 135)], [.ref 135, .ref 135])) tb_c_190_1 mx_190 2 rfl ?_
                      refine bk_gi tb_c_190_1 rfl rfl (ci := 11) (k := 44) rfl rfl rfl ?_
                      refine bk_b (q := (177, [(3, .int (S15.1 153 (S15.1 135 35).toNatClampNeg)), (0, .ref 135)], [.int ((S28.1 135 44) + (1 : Int32)), .ref 135])) tb_c_190_1 mx_190 2 rfl ?_
                      obtain ⟨S29, eS29, h⟩ := wd_bx h
                      refine bk_pi tb_c_190_1 rfl rfl (ci := 11) (k := 44) rfl rfl rfl rfl ?_
                      rw [eS29]
                      refine bk_b (q := (413, [(3, .int (S15.1 153 (S15.1 135 35).toNatClampNeg)), (0, .ref 135)], [])) tb_c_190_1 mx_190 1 rfl ?_
                      exact go_lv (ls_sc rfl rfl ls_nil) (sn_Mo_goes_413 ih h)
                  · rw [if_neg g26] at h
                    by_cases g30 : (S15.1 152 (S15.1 135 35).toNatClampNeg) = (5 : Int32)
                    · rw [if_pos g30] at h
                      refine bk_sw tb_c_190_1 rfl (pc' := 183) (by rw [g30]; rfl) ?_
                      refine bk_b (q := (185, [(3, .int (S15.1 153 (S15.1 135 35).toNatClampNeg)), (0, .ref 135)], [.ref 135, .ref 135])) tb_c_190_1 mx_190 2 rfl ?_
                      refine bk_gi tb_c_190_1 rfl rfl (ci := 11) (k := 44) rfl rfl rfl ?_
                      refine bk_b (q := (190, [(3, .int (S15.1 153 (S15.1 135 35).toNatClampNeg)), (0, .ref 135)], [.int ((S15.1 135 44) - (1 : Int32)), .ref 135])) tb_c_190_2 mx_190 2 rfl ?_
                      obtain ⟨S31, eS31, h⟩ := wd_bx h
                      refine bk_pi tb_c_190_2 rfl rfl (ci := 11) (k := 44) rfl rfl rfl rfl ?_
                      rw [eS31]
                      refine bk_b (q := (196, [(3, .int (S15.1 153 (S15.1 135 35).toNatClampNeg)), (0, .ref 135)], [.ref 135, .int (S15.1 153 (S15.1 135 35).toNatClampNeg), .ref 135])) tb_c_190_2 mx_190 3 rfl ?_
                      refine bk_gc tb_c_190_2 rfl rfl (ci := 11) (k := 43) rfl rfl rfl ?_
                      refine bk_b (q := (200, [(3, .int (S15.1 153 (S15.1 135 35).toNatClampNeg)), (0, .ref 135)], [.ref 135, .ref 157, .int (S15.1 153 (S15.1 135 35).toNatClampNeg), .ref 135])) tb_c_190_2 mx_190 1 rfl ?_
                      refine bk_gi tb_c_190_2 rfl rfl (ci := 11) (k := 44) rfl rfl rfl ?_
                      by_cases g32 : (S31.1 135 44) < 0 ∨ 4000 ≤ (S31.1 135 44).toNatClampNeg
                      · rw [if_pos g32] at h; cases h
                      · rw [if_neg g32] at h
                        refine bk_a4 tb_c_190_2 rfl rfl rfl g32 ?_
                        refine bk_b (q := (205, [(3, .int (S15.1 153 (S15.1 135 35).toNatClampNeg)), (0, .ref 135)], [.ref 135, .int (S31.1 157 (S31.1 135 44).toNatClampNeg), .int (S15.1 153 (S15.1 135 35).toNatClampNeg), .ref 135])) tb_c_190_2 mx_190 1 rfl ?_
                        refine bk_gi tb_c_190_2 rfl rfl (ci := 11) (k := 47) rfl rfl rfl ?_
                        obtain ⟨x34, S33, c35, h⟩ := wd_cx h
                        refine bk_ks tb_c_190_2 rfl rfl rfl (by decide) rfl rfl (ev_up (Nat.le_of_ble_eq_true rfl) (sn_Mo_applied c35)) ?_
                        obtain ⟨S36, eS36, h⟩ := wd_bx h
                        refine bk_pi tb_c_190_2 rfl rfl (ci := 11) (k := 47) rfl rfl rfl rfl ?_
                        rw [eS36]
                        refine bk_b (q := (413, [(3, .int (S15.1 153 (S15.1 135 35).toNatClampNeg)), (0, .ref 135)], [])) tb_c_190_2 mx_190 1 rfl ?_
                        exact go_lv (ls_sc rfl rfl ls_nil) (sn_Mo_goes_413 ih h)
                    · rw [if_neg g30] at h
                      by_cases g37 : (S15.1 152 (S15.1 135 35).toNatClampNeg) = (6 : Int32)
                      · rw [if_pos g37] at h
                        refine bk_sw tb_c_190_1 rfl (pc' := 217) (by rw [g37]; rfl) ?_
                        refine bk_b (q := (220, [(3, .int (S15.1 153 (S15.1 135 35).toNatClampNeg)), (0, .ref 135)], [.ref 135, .int (1 : Int32), .ref 135])) tb_c_190_2 mx_190 3 rfl ?_
                        refine bk_gi tb_c_190_2 rfl rfl (ci := 11) (k := 47) rfl rfl rfl ?_
                        by_cases g38 : (S15.1 135 47) = 0
                        · rw [if_pos g38] at h
                          refine bk_zf tb_c_190_2 rfl (pc' := 226) rfl (t := 235) rfl (cm_ne_f g38) ?_
                          refine bk_b (q := (227, [(3, .int (S15.1 153 (S15.1 135 35).toNatClampNeg)), (0, .ref 135)], [.ref 135, .int (1 : Int32), .ref 135])) tb_c_190_2 mx_190 1 rfl ?_
                          refine bk_gc tb_c_190_2 rfl rfl (ci := 11) (k := 20) rfl rfl rfl ?_
                          refine bk_b (q := (231, [(3, .int (S15.1 153 (S15.1 135 35).toNatClampNeg)), (0, .ref 135)], [.int (S15.1 153 (S15.1 135 35).toNatClampNeg), .ref 146, .int (1 : Int32), .ref 135])) tb_c_190_2 mx_190 1 rfl ?_
                          by_cases g43 : (S15.1 153 (S15.1 135 35).toNatClampNeg) < 0 ∨ 15010 ≤ (S15.1 153 (S15.1 135 35).toNatClampNeg).toNatClampNeg
                          · rw [if_pos g43] at h; cases h
                          · rw [if_neg g43] at h
                            refine bk_a4 tb_c_190_2 rfl rfl rfl g43 ?_
                            refine bk_b (q := (241, [(3, .int (S15.1 153 (S15.1 135 35).toNatClampNeg)), (0, .ref 135)], [.int (S15.1 146 (S15.1 153 (S15.1 135 35).toNatClampNeg).toNatClampNeg), .int (1 : Int32), .ref 135])) tb_c_190_2 mx_190 1 rfl ?_
                            exact go_lv (ls_sc rfl rfl ls_nil) (sn_Mo_goes_241 ih h)
                        · rw [if_neg g38] at h
                          refine bk_zt tb_c_190_2 rfl (pc' := 235) rfl (cm_ne_t g38) ?_
                          refine bk_b (q := (236, [(3, .int (S15.1 153 (S15.1 135 35).toNatClampNeg)), (0, .ref 135)], [.ref 135, .int (1 : Int32), .ref 135])) tb_c_190_2 mx_190 1 rfl ?_
                          refine bk_gc tb_c_190_2 rfl rfl (ci := 11) (k := 19) rfl rfl rfl ?_
                          refine bk_b (q := (240, [(3, .int (S15.1 153 (S15.1 135 35).toNatClampNeg)), (0, .ref 135)], [.int (S15.1 153 (S15.1 135 35).toNatClampNeg), .ref 145, .int (1 : Int32), .ref 135])) tb_c_190_2 mx_190 1 rfl ?_
                          by_cases g39 : (S15.1 153 (S15.1 135 35).toNatClampNeg) < 0 ∨ 15010 ≤ (S15.1 153 (S15.1 135 35).toNatClampNeg).toNatClampNeg
                          · rw [if_pos g39] at h; cases h
                          · rw [if_neg g39] at h
                            refine bk_a4 tb_c_190_2 rfl rfl rfl g39 ?_
                            exact go_lv (ls_sc rfl rfl ls_nil) (sn_Mo_goes_241 ih h)
                      · rw [if_neg g37] at h
                        by_cases g44 : (S15.1 152 (S15.1 135 35).toNatClampNeg) = (7 : Int32)
                        · rw [if_pos g44] at h
                          refine bk_sw tb_c_190_1 rfl (pc' := 247) (by rw [g44]; rfl) ?_
                          refine bk_b (q := (248, [(3, .int (S15.1 153 (S15.1 135 35).toNatClampNeg)), (0, .ref 135)], [.ref 135])) tb_c_190_2 mx_190 1 rfl ?_
                          refine bk_gc tb_c_190_2 rfl rfl (ci := 11) (k := 45) rfl rfl rfl ?_
                          refine bk_b (q := (254, [(3, .int (S15.1 153 (S15.1 135 35).toNatClampNeg)), (0, .ref 135)], [.ref 135, .int (16 : Int32), .ref 158])) tb_c_190_2 mx_190 2 rfl ?_
                          refine bk_gi tb_c_190_2 rfl rfl (ci := 11) (k := 46) rfl rfl rfl ?_
                          refine bk_b (q := (259, [(3, .int (S15.1 153 (S15.1 135 35).toNatClampNeg)), (0, .ref 135)], [.ref 135, .int ((16 : Int32) * (S15.1 135 46)), .ref 158])) tb_c_190_2 mx_190 2 rfl ?_
                          refine bk_gc tb_c_190_2 rfl rfl (ci := 11) (k := 20) rfl rfl rfl ?_
                          refine bk_b (q := (263, [(3, .int (S15.1 153 (S15.1 135 35).toNatClampNeg)), (0, .ref 135)], [.int (S15.1 153 (S15.1 135 35).toNatClampNeg), .ref 146, .int ((16 : Int32) * (S15.1 135 46)), .ref 158])) tb_c_190_2 mx_190 1 rfl ?_
                          by_cases g45 : (S15.1 153 (S15.1 135 35).toNatClampNeg) < 0 ∨ 15010 ≤ (S15.1 153 (S15.1 135 35).toNatClampNeg).toNatClampNeg
                          · rw [if_pos g45] at h; cases h
                          · rw [if_neg g45] at h
                            refine bk_a4 tb_c_190_3 rfl rfl rfl g45 ?_
                            refine bk_b (q := (266, [(3, .int (S15.1 153 (S15.1 135 35).toNatClampNeg)), (0, .ref 135)], [.ref 135, .int (((16 : Int32) * (S15.1 135 46)) + (S15.1 146 (S15.1 153 (S15.1 135 35).toNatClampNeg).toNatClampNeg)), .ref 158])) tb_c_190_3 mx_190 2 rfl ?_
                            refine bk_gi tb_c_190_3 rfl rfl (ci := 11) (k := 47) rfl rfl rfl ?_
                            by_cases g46 : (((16 : Int32) * (S15.1 135 46)) + (S15.1 146 (S15.1 153 (S15.1 135 35).toNatClampNeg).toNatClampNeg)) < 0 ∨ 2640 ≤ (((16 : Int32) * (S15.1 135 46)) + (S15.1 146 (S15.1 153 (S15.1 135 35).toNatClampNeg).toNatClampNeg)).toNatClampNeg
                            · rw [if_pos g46] at h; cases h
                            · rw [if_neg g46] at h
                              obtain ⟨S47, eS47, h⟩ := wd_bx h
                              refine bk_s4 tb_c_190_3 rfl rfl rfl g46 ?_
                              rw [eS47]
                              refine bk_b (q := (273, [(3, .int (S15.1 153 (S15.1 135 35).toNatClampNeg)), (0, .ref 135)], [.ref 135, .int (1 : Int32), .ref 135])) tb_c_190_3 mx_190 3 rfl ?_
                              refine bk_gc tb_c_190_3 rfl rfl (ci := 11) (k := 19) rfl rfl rfl ?_
                              refine bk_b (q := (277, [(3, .int (S15.1 153 (S15.1 135 35).toNatClampNeg)), (0, .ref 135)], [.int (S15.1 153 (S15.1 135 35).toNatClampNeg), .ref 145, .int (1 : Int32), .ref 135])) tb_c_190_3 mx_190 1 rfl ?_
                              by_cases g48 : (S15.1 153 (S15.1 135 35).toNatClampNeg) < 0 ∨ 15010 ≤ (S15.1 153 (S15.1 135 35).toNatClampNeg).toNatClampNeg
                              · rw [if_pos g48] at h; cases h
                              · rw [if_neg g48] at h
                                refine bk_a4 tb_c_190_3 rfl rfl rfl g48 ?_
                                obtain ⟨S49, c51, h⟩ := wd_dx h
                                refine bk_kv tb_c_190_3 rfl rfl rfl rfl rfl (ci := 11) rfl rfl (ev_up (Nat.le_of_ble_eq_true rfl) (sn_Mo_push c51)) ?_
                                refine bk_b (q := (413, [(3, .int (S15.1 153 (S15.1 135 35).toNatClampNeg)), (0, .ref 135)], [])) tb_c_190_3 mx_190 1 rfl ?_
                                exact go_lv (ls_sc rfl rfl ls_nil) (sn_Mo_goes_413 ih h)
                        · rw [if_neg g44] at h
                          by_cases g52 : (S15.1 152 (S15.1 135 35).toNatClampNeg) = (8 : Int32)
                          · rw [if_pos g52] at h
                            refine bk_sw tb_c_190_1 rfl (pc' := 284) (by rw [g52]; rfl) ?_
                            refine bk_b (q := (286, [(3, .int (S15.1 153 (S15.1 135 35).toNatClampNeg)), (0, .ref 135)], [.ref 135, .ref 135])) tb_c_190_3 mx_190 2 rfl ?_
                            refine bk_gi tb_c_190_3 rfl rfl (ci := 11) (k := 46) rfl rfl rfl ?_
                            refine bk_b (q := (291, [(3, .int (S15.1 153 (S15.1 135 35).toNatClampNeg)), (0, .ref 135)], [.int ((S15.1 135 46) + (1 : Int32)), .ref 135])) tb_c_190_3 mx_190 2 rfl ?_
                            obtain ⟨S53, eS53, h⟩ := wd_bx h
                            refine bk_pi tb_c_190_3 rfl rfl (ci := 11) (k := 46) rfl rfl rfl rfl ?_
                            rw [eS53]
                            refine bk_b (q := (296, [(3, .int (S15.1 153 (S15.1 135 35).toNatClampNeg)), (0, .ref 135)], [.ref 135, .ref 135])) tb_c_190_3 mx_190 2 rfl ?_
                            refine bk_gi tb_c_190_3 rfl rfl (ci := 11) (k := 44) rfl rfl rfl ?_
                            refine bk_b (q := (300, [(3, .int (S15.1 153 (S15.1 135 35).toNatClampNeg)), (0, .ref 135)], [.ref 135, .int (S53.1 135 44), .ref 135])) tb_c_190_3 mx_190 1 rfl ?_
                            refine bk_gc tb_c_190_3 rfl rfl (ci := 11) (k := 19) rfl rfl rfl ?_
                            refine bk_b (q := (304, [(3, .int (S15.1 153 (S15.1 135 35).toNatClampNeg)), (0, .ref 135)], [.int (S15.1 153 (S15.1 135 35).toNatClampNeg), .ref 145, .int (S53.1 135 44), .ref 135])) tb_c_190_3 mx_190 1 rfl ?_
                            by_cases g54 : (S15.1 153 (S15.1 135 35).toNatClampNeg) < 0 ∨ 15010 ≤ (S15.1 153 (S15.1 135 35).toNatClampNeg).toNatClampNeg
                            · rw [if_pos g54] at h; cases h
                            · rw [if_neg g54] at h
                              refine bk_a4 tb_c_190_3 rfl rfl rfl g54 ?_
                              refine bk_b (q := (306, [(3, .int (S15.1 153 (S15.1 135 35).toNatClampNeg)), (0, .ref 135)], [.int ((S53.1 135 44) - (S53.1 145 (S15.1 153 (S15.1 135 35).toNatClampNeg).toNatClampNeg)), .ref 135])) tb_c_190_3 mx_190 1 rfl ?_
                              obtain ⟨S55, eS55, h⟩ := wd_bx h
                              refine bk_pi tb_c_190_3 rfl rfl (ci := 11) (k := 44) rfl rfl rfl rfl ?_
                              rw [eS55]
                              refine bk_b (q := (312, [(4, .int (0 : Int32)), (3, .int (S15.1 153 (S15.1 135 35).toNatClampNeg)), (0, .ref 135)], [])) tb_c_190_3 mx_190 2 rfl ?_
                              exact go_lv (ls_sc rfl rfl (ls_sc rfl rfl (ls_sc rfl rfl ls_nil))) (sn_Mo_goes_312 ih wd_F h)
                          · rw [if_neg g52] at h
                            refine bk_sw tb_c_190_1 rfl (pc' := 403) (sw_t (t := 403) (fun i h1 h2 => ?_) rfl) ?_
                            · have hi : i = 1 ∨ i = 2 ∨ i = 3 ∨ i = 4 ∨ i = 5 ∨ i = 6 ∨ i = 7 ∨ i = 8 := by omega
                              rcases hi with rfl | rfl | rfl | rfl | rfl | rfl | rfl | rfl
                              · exact g18
                              · exact g22
                              · exact g24
                              · exact g26
                              · exact g30
                              · exact g37
                              · exact g44
                              · exact g52
                            · refine bk_b (q := (405, [(3, .int (S15.1 153 (S15.1 135 35).toNatClampNeg)), (0, .ref 135)], [.ref 135, .ref 135])) tb_c_190_5 mx_190 2 rfl ?_
                              refine bk_gi tb_c_190_5 rfl rfl (ci := 11) (k := 46) rfl rfl rfl ?_
                              refine bk_b (q := (410, [(3, .int (S15.1 153 (S15.1 135 35).toNatClampNeg)), (0, .ref 135)], [.int ((S15.1 135 46) - (1 : Int32)), .ref 135])) tb_c_190_5 mx_190 2 rfl ?_
                              obtain ⟨S72, eS72, h⟩ := wd_bx h
                              refine bk_pi tb_c_190_5 rfl rfl (ci := 11) (k := 46) rfl rfl rfl rfl ?_
                              rw [eS72]
                              exact go_lv (ls_sc rfl rfl ls_nil) (sn_Mo_goes_413 ih h)
      · rw [if_neg g14] at h
        refine bk_zt tb_c_190_0 rfl (pc' := 416) rfl (cm_ne_t g14) ?_
        exact go_lv (ls_sc rfl rfl ls_nil) (sn_Mo_goes_416 h)
    · rw [if_neg g12] at h
      refine bk_zt tb_c_190_0 rfl (pc' := 416) rfl (cm_le_t g12) ?_
      exact go_lv (ls_sc rfl rfl ls_nil) (sn_Mo_goes_416 h)
/-- SpecialiserModel.goes(II)I -/
noncomputable def fn_Mo_goes (p1 : Int32) (p2 : Int32) (S : wd_S) : Option (Int32 × wd_S) :=
  (wd_b (wd_i S 135 35 (0 : Int32)) fun S1 =>
  (wd_b (wd_i S1 135 44 (0 : Int32)) fun S2 =>
  (wd_b (wd_i S2 135 46 (0 : Int32)) fun S3 =>
  (wd_b (wd_i S3 135 48 (0 : Int32)) fun S4 =>
  (wd_b (wd_i S4 135 49 p2) fun S5 =>
  (wd_b (wd_i S5 135 50 (0 : Int32)) fun S6 =>
  (wd_b (wd_i S6 135 51 (0 : Int32)) fun S7 =>
  (wd_b (wd_i S7 135 52 (0 : Int32)) fun S8 =>
  (wd_d (fn_Mo_push (1 : Int32) p1 S8) fun S9 =>
  fn_Mo_goes_46 wd_F  S9)))))))))
set_option maxRecDepth 100000 in
theorem sn_Mo_goes {L : Nat} {xs : Nat → Int32} {p1 : Int32} {p2 : Int32} {S : wd_S} {x : Int32} {S' : wd_S} (h : fn_Mo_goes p1 p2 S = some (x, S')) : ev_r tb_P L xs (2 + 1) 190 [.ref 135, .int p1, .int p2] (wd_k S) (.inl (some (.int x)), wd_k S') := by
  unfold fn_Mo_goes at h
  refine ev_of (Nat.le_of_ble_eq_true rfl) ?_
  show go_r tb_P L xs 2 190 0 [(0, .ref 135), (1, .int p1), (2, .int p2)] [] (wd_k S) (.inl (some (.int x)), wd_k S')
  refine bk_b (q := (2, [(0, .ref 135), (1, .int p1), (2, .int p2)], [.int (0 : Int32), .ref 135])) tb_c_190_0 mx_190 2 rfl ?_
  obtain ⟨S1, eS1, h⟩ := wd_bx h
  refine bk_pi tb_c_190_0 rfl rfl (ci := 11) (k := 35) rfl rfl rfl rfl ?_
  rw [eS1]
  refine bk_b (q := (7, [(0, .ref 135), (1, .int p1), (2, .int p2)], [.int (0 : Int32), .ref 135])) tb_c_190_0 mx_190 2 rfl ?_
  obtain ⟨S2, eS2, h⟩ := wd_bx h
  refine bk_pi tb_c_190_0 rfl rfl (ci := 11) (k := 44) rfl rfl rfl rfl ?_
  rw [eS2]
  refine bk_b (q := (12, [(0, .ref 135), (1, .int p1), (2, .int p2)], [.int (0 : Int32), .ref 135])) tb_c_190_0 mx_190 2 rfl ?_
  obtain ⟨S3, eS3, h⟩ := wd_bx h
  refine bk_pi tb_c_190_0 rfl rfl (ci := 11) (k := 46) rfl rfl rfl rfl ?_
  rw [eS3]
  refine bk_b (q := (17, [(0, .ref 135), (1, .int p1), (2, .int p2)], [.int (0 : Int32), .ref 135])) tb_c_190_0 mx_190 2 rfl ?_
  obtain ⟨S4, eS4, h⟩ := wd_bx h
  refine bk_pi tb_c_190_0 rfl rfl (ci := 11) (k := 48) rfl rfl rfl rfl ?_
  rw [eS4]
  refine bk_b (q := (22, [(0, .ref 135), (1, .int p1), (2, .int p2)], [.int p2, .ref 135])) tb_c_190_0 mx_190 2 rfl ?_
  obtain ⟨S5, eS5, h⟩ := wd_bx h
  refine bk_pi tb_c_190_0 rfl rfl (ci := 11) (k := 49) rfl rfl rfl rfl ?_
  rw [eS5]
  refine bk_b (q := (27, [(0, .ref 135), (1, .int p1), (2, .int p2)], [.int (0 : Int32), .ref 135])) tb_c_190_0 mx_190 2 rfl ?_
  obtain ⟨S6, eS6, h⟩ := wd_bx h
  refine bk_pi tb_c_190_0 rfl rfl (ci := 11) (k := 50) rfl rfl rfl rfl ?_
  rw [eS6]
  refine bk_b (q := (32, [(0, .ref 135), (1, .int p1), (2, .int p2)], [.int (0 : Int32), .ref 135])) tb_c_190_0 mx_190 2 rfl ?_
  obtain ⟨S7, eS7, h⟩ := wd_bx h
  refine bk_pi tb_c_190_0 rfl rfl (ci := 11) (k := 51) rfl rfl rfl rfl ?_
  rw [eS7]
  refine bk_b (q := (37, [(0, .ref 135), (1, .int p1), (2, .int p2)], [.int (0 : Int32), .ref 135])) tb_c_190_0 mx_190 2 rfl ?_
  obtain ⟨S8, eS8, h⟩ := wd_bx h
  refine bk_pi tb_c_190_0 rfl rfl (ci := 11) (k := 52) rfl rfl rfl rfl ?_
  rw [eS8]
  refine bk_b (q := (43, [(0, .ref 135), (1, .int p1), (2, .int p2)], [.int p1, .int (1 : Int32), .ref 135])) tb_c_190_0 mx_190 3 rfl ?_
  obtain ⟨S9, c11, h⟩ := wd_dx h
  refine bk_kv tb_c_190_0 rfl rfl rfl rfl rfl (ci := 11) rfl rfl (ev_up (Nat.le_of_ble_eq_true rfl) (sn_Mo_push c11)) ?_
  exact go_lv (ls_sc rfl rfl ls_nil) (sn_Mo_goes_46 wd_F h)
theorem mx_189 : mi_mx tb_P 189 = 10 := rfl
noncomputable def fn_Mo_onCalled_302 : Nat → Int32 → Int32 → Int32 → wd_S → Option wd_S
  | 0, _, _, _, _ => none
  | n + 1, l6, l8, l9, S =>
    (if l9 < l6 then
      (if l9 < 0 ∨ 4 ≤ l9.toNatClampNeg then none else
      (if (S.1 135 67) < 0 ∨ 15010 ≤ (S.1 135 67).toNatClampNeg then none else
      (wd_b (wd_i S 149 (S.1 135 67).toNatClampNeg (S.1 172 l9.toNatClampNeg)) fun S26 =>
      (wd_b (wd_i S26 135 67 ((S26.1 135 67) + (1 : Int32))) fun S27 =>
      fn_Mo_onCalled_302 n l6 l8 (l9 + (1 : Int32)) S27))))
    else
      (wd_d (fn_Mo_gives (0 : Int32) l8 S) fun S21 =>
      some S21))
set_option maxRecDepth 100000 in
theorem sn_Mo_onCalled_302 {L : Nat} {xs : Nat → Int32} : ∀ (n : Nat) {l6 : Int32} {l8 : Int32} {l9 : Int32} {S : wd_S} {S' : wd_S}, fn_Mo_onCalled_302 n l6 l8 l9 S = some S' → go_r tb_P L xs 3 189 302 [(0, .ref 135), (6, .int l6), (7, .ref 172), (8, .int l8), (9, .int l9)] [] (wd_k S) (.inl none, wd_k S') := by
  intro n
  induction n with
  | zero => intro l6 l8 l9 S S'  h; cases h
  | succ n ih =>
    intro l6 l8 l9 S S'  h
    rw [fn_Mo_onCalled_302] at h
    refine bk_b (q := (306, [(0, .ref 135), (6, .int l6), (7, .ref 172), (8, .int l8), (9, .int l9)], [.int l6, .int l9])) tb_c_189_4 mx_189 2 rfl ?_
    by_cases g20 : l9 < l6
    · rw [if_pos g20] at h
      refine bk_jf tb_c_189_4 rfl (pc' := 309) rfl (t := 339) rfl (cm_ge_f g20) ?_
      refine bk_b (q := (310, [(0, .ref 135), (6, .int l6), (7, .ref 172), (8, .int l8), (9, .int l9)], [.ref 135])) tb_c_189_4 mx_189 1 rfl ?_
      refine bk_gc tb_c_189_4 rfl rfl (ci := 11) (k := 23) rfl rfl rfl ?_
      refine bk_b (q := (314, [(0, .ref 135), (6, .int l6), (7, .ref 172), (8, .int l8), (9, .int l9)], [.ref 135, .ref 149])) tb_c_189_4 mx_189 1 rfl ?_
      refine bk_gi tb_c_189_4 rfl rfl (ci := 11) (k := 67) rfl rfl rfl ?_
      refine bk_b (q := (321, [(0, .ref 135), (6, .int l6), (7, .ref 172), (8, .int l8), (9, .int l9)], [.int l9, .ref 172, .int (S.1 135 67), .ref 149])) tb_c_189_4 mx_189 2 rfl ?_
      by_cases g24 : l9 < 0 ∨ 4 ≤ l9.toNatClampNeg
      · rw [if_pos g24] at h; cases h
      · rw [if_neg g24] at h
        refine bk_a4 tb_c_189_4 rfl rfl rfl g24 ?_
        by_cases g25 : (S.1 135 67) < 0 ∨ 15010 ≤ (S.1 135 67).toNatClampNeg
        · rw [if_pos g25] at h; cases h
        · rw [if_neg g25] at h
          obtain ⟨S26, eS26, h⟩ := wd_bx h
          refine bk_s4 tb_c_189_4 rfl rfl rfl g25 ?_
          rw [eS26]
          refine bk_b (q := (325, [(0, .ref 135), (6, .int l6), (7, .ref 172), (8, .int l8), (9, .int l9)], [.ref 135, .ref 135])) tb_c_189_4 mx_189 2 rfl ?_
          refine bk_gi tb_c_189_4 rfl rfl (ci := 11) (k := 67) rfl rfl rfl ?_
          refine bk_b (q := (330, [(0, .ref 135), (6, .int l6), (7, .ref 172), (8, .int l8), (9, .int l9)], [.int ((S26.1 135 67) + (1 : Int32)), .ref 135])) tb_c_189_4 mx_189 2 rfl ?_
          obtain ⟨S27, eS27, h⟩ := wd_bx h
          refine bk_pi tb_c_189_4 rfl rfl (ci := 11) (k := 67) rfl rfl rfl rfl ?_
          rw [eS27]
          refine bk_b (q := (302, [(9, .int (l9 + (1 : Int32))), (0, .ref 135), (6, .int l6), (7, .ref 172), (8, .int l8)], [])) tb_c_189_4 mx_189 2 rfl ?_
          exact go_lv (ls_sc rfl rfl (ls_sc rfl rfl (ls_sc rfl rfl (ls_sc rfl rfl (ls_sc rfl rfl ls_nil))))) (ih h)
    · rw [if_neg g20] at h
      refine bk_jt tb_c_189_4 rfl (pc' := 339) rfl (cm_ge_t g20) ?_
      refine bk_b (q := (343, [(0, .ref 135), (6, .int l6), (7, .ref 172), (8, .int l8), (9, .int l9)], [.int l8, .int (0 : Int32), .ref 135])) tb_c_189_4 mx_189 3 rfl ?_
      obtain ⟨S21, c23, h⟩ := wd_dx h
      refine bk_kv tb_c_189_4 rfl rfl rfl rfl rfl (ci := 11) rfl rfl (ev_up (Nat.le_of_ble_eq_true rfl) (sn_Mo_gives c23)) ?_
      cases h
      exact bk_t tb_c_189_4 rfl rfl
noncomputable def fn_Mo_onCalled_256 (kk224 : Int32 → Int32 → Int32 → Int32 → Int32 → Int32 → wd_S → Option wd_S) (l2 : Int32) (l3 : Int32) (l4 : Int32) (l5 : Int32) (l6 : Int32) (l8 : Int32) (S : wd_S) : Option wd_S :=
  kk224 l2 l3 l4 l5 l6 (l8 + (1 : Int32)) S
set_option maxRecDepth 100000 in
theorem sn_Mo_onCalled_256 {L : Nat} {xs : Nat → Int32} {kk224 : Int32 → Int32 → Int32 → Int32 → Int32 → Int32 → wd_S → Option wd_S} (hk224 : ∀ {l2 : Int32} {l3 : Int32} {l4 : Int32} {l5 : Int32} {l6 : Int32} {l8 : Int32} {S : wd_S} {S' : wd_S}, kk224 l2 l3 l4 l5 l6 l8 S = some S' → go_r tb_P L xs 3 189 224 [(0, .ref 135), (2, .int l2), (3, .int l3), (4, .int l4), (5, .int l5), (6, .int l6), (7, .ref 172), (8, .int l8)] [] (wd_k S) (.inl none, wd_k S')) {l2 : Int32} {l3 : Int32} {l4 : Int32} {l5 : Int32} {l6 : Int32} {l8 : Int32} {S : wd_S} {S' : wd_S} (h : fn_Mo_onCalled_256 kk224 l2 l3 l4 l5 l6 l8 S = some S') : go_r tb_P L xs 3 189 256 [(0, .ref 135), (2, .int l2), (3, .int l3), (4, .int l4), (5, .int l5), (6, .int l6), (7, .ref 172), (8, .int l8)] [] (wd_k S) (.inl none, wd_k S') := by
  unfold fn_Mo_onCalled_256 at h
  refine bk_b (q := (224, [(8, .int (l8 + (1 : Int32))), (0, .ref 135), (2, .int l2), (3, .int l3), (4, .int l4), (5, .int l5), (6, .int l6), (7, .ref 172)], [])) tb_c_189_3 mx_189 2 rfl ?_
  exact go_lv (ls_sc rfl rfl (ls_sc rfl rfl (ls_sc rfl rfl (ls_sc rfl rfl (ls_sc rfl rfl (ls_sc rfl rfl (ls_sc rfl rfl (ls_sc rfl rfl ls_nil)))))))) (hk224 h)
noncomputable def fn_Mo_onCalled_224 : Nat → Int32 → Int32 → Int32 → Int32 → Int32 → Int32 → wd_S → Option wd_S
  | 0, _, _, _, _, _, _, _ => none
  | n + 1, l2, l3, l4, l5, l6, l8, S =>
    (if l8 < l2 then
      (if ((l4 >>> (l8 &&& 31)) &&& (1 : Int32)) = 0 then
        (wd_c (fn_Mo_nodeOf (l3 + l8) S) fun x30 S29 =>
        (if l6 < 0 ∨ 4 ≤ l6.toNatClampNeg then none else
        (wd_b (wd_i S29 172 l6.toNatClampNeg x30) fun S33 =>
        fn_Mo_onCalled_256 (fn_Mo_onCalled_224 n) l2 l3 l4 l5 (l6 + (1 : Int32)) l8 S33)))
      else
        fn_Mo_onCalled_256 (fn_Mo_onCalled_224 n) l2 l3 l4 l5 l6 l8 S)
    else
      (wd_c (fn_Mo_fresh (8 : Int32) S) fun x12 S11 =>
      (if x12 < 0 ∨ 15010 ≤ x12.toNatClampNeg then none else
      (wd_b (wd_i S11 144 x12.toNatClampNeg (S11.1 135 67)) fun S15 =>
      (if x12 < 0 ∨ 15010 ≤ x12.toNatClampNeg then none else
      (wd_b (wd_i S15 145 x12.toNatClampNeg l6) fun S17 =>
      (if x12 < 0 ∨ 15010 ≤ x12.toNatClampNeg then none else
      (wd_b (wd_i S17 146 x12.toNatClampNeg l5) fun S19 =>
      fn_Mo_onCalled_302 wd_F l6 x12 (0 : Int32) S19))))))))
set_option maxRecDepth 100000 in
theorem sn_Mo_onCalled_224 {L : Nat} {xs : Nat → Int32} : ∀ (n : Nat) {l2 : Int32} {l3 : Int32} {l4 : Int32} {l5 : Int32} {l6 : Int32} {l8 : Int32} {S : wd_S} {S' : wd_S}, fn_Mo_onCalled_224 n l2 l3 l4 l5 l6 l8 S = some S' → go_r tb_P L xs 3 189 224 [(0, .ref 135), (2, .int l2), (3, .int l3), (4, .int l4), (5, .int l5), (6, .int l6), (7, .ref 172), (8, .int l8)] [] (wd_k S) (.inl none, wd_k S') := by
  intro n
  induction n with
  | zero => intro l2 l3 l4 l5 l6 l8 S S'  h; cases h
  | succ n ih =>
    intro l2 l3 l4 l5 l6 l8 S S'  h
    rw [fn_Mo_onCalled_224] at h
    refine bk_b (q := (227, [(0, .ref 135), (2, .int l2), (3, .int l3), (4, .int l4), (5, .int l5), (6, .int l6), (7, .ref 172), (8, .int l8)], [.int l2, .int l8])) tb_c_189_3 mx_189 2 rfl ?_
    by_cases g10 : l8 < l2
    · rw [if_pos g10] at h
      refine bk_jf tb_c_189_3 rfl (pc' := 230) rfl (t := 262) rfl (cm_ge_f g10) ?_
      refine bk_b (q := (237, [(0, .ref 135), (2, .int l2), (3, .int l3), (4, .int l4), (5, .int l5), (6, .int l6), (7, .ref 172), (8, .int l8)], [.int ((l4 >>> (l8 &&& 31)) &&& (1 : Int32))])) tb_c_189_3 mx_189 5 rfl ?_
      by_cases g28 : ((l4 >>> (l8 &&& 31)) &&& (1 : Int32)) = 0
      · rw [if_pos g28] at h
        refine bk_zf tb_c_189_3 rfl (pc' := 240) rfl (t := 256) rfl (cm_ne_f g28) ?_
        refine bk_b (q := (249, [(0, .ref 135), (2, .int l2), (3, .int l3), (4, .int l4), (5, .int l5), (6, .int l6), (7, .ref 172), (8, .int l8)], [.int (l3 + l8), .ref 135, .int l6, .ref 172])) tb_c_189_3 mx_189 6 rfl ?_
        obtain ⟨x30, S29, c31, h⟩ := wd_cx h
        refine bk_kv tb_c_189_3 rfl rfl rfl rfl rfl (ci := 11) rfl rfl (ev_up (Nat.le_of_ble_eq_true rfl) (sn_Mo_nodeOf c31)) ?_
        by_cases g32 : l6 < 0 ∨ 4 ≤ l6.toNatClampNeg
        · rw [if_pos g32] at h; cases h
        · rw [if_neg g32] at h
          obtain ⟨S33, eS33, h⟩ := wd_bx h
          refine bk_s4 tb_c_189_3 rfl rfl rfl g32 ?_
          rw [eS33]
          refine bk_b (q := (256, [(6, .int (l6 + (1 : Int32))), (0, .ref 135), (2, .int l2), (3, .int l3), (4, .int l4), (5, .int l5), (7, .ref 172), (8, .int l8)], [])) tb_c_189_3 mx_189 1 rfl ?_
          exact go_lv (ls_sc rfl rfl (ls_sc rfl rfl (ls_sc rfl rfl (ls_sc rfl rfl (ls_sc rfl rfl (ls_sc rfl rfl (ls_sc rfl rfl (ls_sc rfl rfl ls_nil)))))))) (sn_Mo_onCalled_256 ih h)
      · rw [if_neg g28] at h
        refine bk_zt tb_c_189_3 rfl (pc' := 256) rfl (cm_ne_t g28) ?_
        exact go_lv (ls_sc rfl rfl (ls_sc rfl rfl (ls_sc rfl rfl (ls_sc rfl rfl (ls_sc rfl rfl (ls_sc rfl rfl (ls_sc rfl rfl (ls_sc rfl rfl ls_nil)))))))) (sn_Mo_onCalled_256 ih h)
    · rw [if_neg g10] at h
      refine bk_jt tb_c_189_3 rfl (pc' := 262) rfl (cm_ge_t g10) ?_
      refine bk_b (q := (265, [(0, .ref 135), (2, .int l2), (3, .int l3), (4, .int l4), (5, .int l5), (6, .int l6), (7, .ref 172), (8, .int l8)], [.int (8 : Int32), .ref 135])) tb_c_189_3 mx_189 2 rfl ?_
      obtain ⟨x12, S11, c13, h⟩ := wd_cx h
      refine bk_kv tb_c_189_3 rfl rfl rfl rfl rfl (ci := 11) rfl rfl (ev_up (Nat.le_of_ble_eq_true rfl) (sn_Mo_fresh c13)) ?_
      refine bk_b (q := (271, [(8, .int x12), (0, .ref 135), (2, .int l2), (3, .int l3), (4, .int l4), (5, .int l5), (6, .int l6), (7, .ref 172)], [.ref 135])) tb_c_189_3 mx_189 2 rfl ?_
      refine bk_gc tb_c_189_3 rfl rfl (ci := 11) (k := 18) rfl rfl rfl ?_
      refine bk_b (q := (277, [(8, .int x12), (0, .ref 135), (2, .int l2), (3, .int l3), (4, .int l4), (5, .int l5), (6, .int l6), (7, .ref 172)], [.ref 135, .int x12, .ref 144])) tb_c_189_3 mx_189 2 rfl ?_
      refine bk_gi tb_c_189_4 rfl rfl (ci := 11) (k := 67) rfl rfl rfl ?_
      by_cases g14 : x12 < 0 ∨ 15010 ≤ x12.toNatClampNeg
      · rw [if_pos g14] at h; cases h
      · rw [if_neg g14] at h
        obtain ⟨S15, eS15, h⟩ := wd_bx h
        refine bk_s4 tb_c_189_4 rfl rfl rfl g14 ?_
        rw [eS15]
        refine bk_b (q := (282, [(8, .int x12), (0, .ref 135), (2, .int l2), (3, .int l3), (4, .int l4), (5, .int l5), (6, .int l6), (7, .ref 172)], [.ref 135])) tb_c_189_4 mx_189 1 rfl ?_
        refine bk_gc tb_c_189_4 rfl rfl (ci := 11) (k := 19) rfl rfl rfl ?_
        refine bk_b (q := (289, [(8, .int x12), (0, .ref 135), (2, .int l2), (3, .int l3), (4, .int l4), (5, .int l5), (6, .int l6), (7, .ref 172)], [.int l6, .int x12, .ref 145])) tb_c_189_4 mx_189 2 rfl ?_
        by_cases g16 : x12 < 0 ∨ 15010 ≤ x12.toNatClampNeg
        · rw [if_pos g16] at h; cases h
        · rw [if_neg g16] at h
          obtain ⟨S17, eS17, h⟩ := wd_bx h
          refine bk_s4 tb_c_189_4 rfl rfl rfl g16 ?_
          rw [eS17]
          refine bk_b (q := (291, [(8, .int x12), (0, .ref 135), (2, .int l2), (3, .int l3), (4, .int l4), (5, .int l5), (6, .int l6), (7, .ref 172)], [.ref 135])) tb_c_189_4 mx_189 1 rfl ?_
          refine bk_gc tb_c_189_4 rfl rfl (ci := 11) (k := 20) rfl rfl rfl ?_
          refine bk_b (q := (298, [(8, .int x12), (0, .ref 135), (2, .int l2), (3, .int l3), (4, .int l4), (5, .int l5), (6, .int l6), (7, .ref 172)], [.int l5, .int x12, .ref 146])) tb_c_189_4 mx_189 2 rfl ?_
          by_cases g18 : x12 < 0 ∨ 15010 ≤ x12.toNatClampNeg
          · rw [if_pos g18] at h; cases h
          · rw [if_neg g18] at h
            obtain ⟨S19, eS19, h⟩ := wd_bx h
            refine bk_s4 tb_c_189_4 rfl rfl rfl g18 ?_
            rw [eS19]
            refine bk_b (q := (302, [(9, .int (0 : Int32)), (8, .int x12), (0, .ref 135), (2, .int l2), (3, .int l3), (4, .int l4), (5, .int l5), (6, .int l6), (7, .ref 172)], [])) tb_c_189_4 mx_189 2 rfl ?_
            exact go_lv (ls_sc rfl rfl (ls_sc rfl rfl (ls_sc rfl rfl (ls_sc rfl rfl (ls_sc rfl rfl ls_nil))))) (sn_Mo_onCalled_302 wd_F h)
noncomputable def fn_Mo_onCalled_212 (l2 : Int32) (l3 : Int32) (l4 : Int32) (l5 : Int32) (S : wd_S) : Option wd_S :=
  fn_Mo_onCalled_224 wd_F l2 l3 l4 l5 (0 : Int32) (0 : Int32) S
set_option maxRecDepth 100000 in
theorem sn_Mo_onCalled_212 {L : Nat} {xs : Nat → Int32} {l2 : Int32} {l3 : Int32} {l4 : Int32} {l5 : Int32} {S : wd_S} {S' : wd_S} (h : fn_Mo_onCalled_212 l2 l3 l4 l5 S = some S') : go_r tb_P L xs 3 189 212 [(0, .ref 135), (2, .int l2), (3, .int l3), (4, .int l4), (5, .int l5)] [] (wd_k S) (.inl none, wd_k S') := by
  unfold fn_Mo_onCalled_212 at h
  refine bk_b (q := (216, [(6, .int (0 : Int32)), (0, .ref 135), (2, .int l2), (3, .int l3), (4, .int l4), (5, .int l5)], [.ref 135])) tb_c_189_3 mx_189 3 rfl ?_
  refine bk_gc tb_c_189_3 rfl rfl (ci := 11) (k := 83) rfl rfl rfl ?_
  refine bk_b (q := (224, [(8, .int (0 : Int32)), (7, .ref 172), (6, .int (0 : Int32)), (0, .ref 135), (2, .int l2), (3, .int l3), (4, .int l4), (5, .int l5)], [])) tb_c_189_3 mx_189 3 rfl ?_
  exact go_lv (ls_sc rfl rfl (ls_sc rfl rfl (ls_sc rfl rfl (ls_sc rfl rfl (ls_sc rfl rfl (ls_sc rfl rfl (ls_sc rfl rfl (ls_sc rfl rfl ls_nil)))))))) (sn_Mo_onCalled_224 wd_F h)
noncomputable def fn_Mo_onCalled_174 (l1 : Int32) (l2 : Int32) (l3 : Int32) (l4 : Int32) (S : wd_S) : Option wd_S :=
  (if l1 < 0 ∨ 15010 ≤ l1.toNatClampNeg then none else
  (wd_c (fn_Mo_versionOf (S.1 146 l1.toNatClampNeg) l4 (0 : Int32) S) fun x7 S6 =>
  (if x7 = (-1 : Int32) then
    (if l1 < 0 ∨ 15010 ≤ l1.toNatClampNeg then none else
    (wd_c (fn_Mo_versionOf (S6.1 146 l1.toNatClampNeg) (0 : Int32) (1 : Int32) S6) fun x36 S35 =>
    fn_Mo_onCalled_212 l2 l3 (0 : Int32) x36 S35))
  else
    fn_Mo_onCalled_212 l2 l3 l4 x7 S6)))
set_option maxRecDepth 100000 in
theorem sn_Mo_onCalled_174 {L : Nat} {xs : Nat → Int32} {l1 : Int32} {l2 : Int32} {l3 : Int32} {l4 : Int32} {S : wd_S} {S' : wd_S} (h : fn_Mo_onCalled_174 l1 l2 l3 l4 S = some S') : go_r tb_P L xs 3 189 174 [(0, .ref 135), (1, .int l1), (2, .int l2), (3, .int l3), (4, .int l4)] [] (wd_k S) (.inl none, wd_k S') := by
  unfold fn_Mo_onCalled_174 at h
  refine bk_b (q := (176, [(0, .ref 135), (1, .int l1), (2, .int l2), (3, .int l3), (4, .int l4)], [.ref 135, .ref 135])) tb_c_189_2 mx_189 2 rfl ?_
  refine bk_gc tb_c_189_2 rfl rfl (ci := 11) (k := 20) rfl rfl rfl ?_
  refine bk_b (q := (180, [(0, .ref 135), (1, .int l1), (2, .int l2), (3, .int l3), (4, .int l4)], [.int l1, .ref 146, .ref 135])) tb_c_189_2 mx_189 1 rfl ?_
  by_cases g5 : l1 < 0 ∨ 15010 ≤ l1.toNatClampNeg
  · rw [if_pos g5] at h; cases h
  · rw [if_neg g5] at h
    refine bk_a4 tb_c_189_2 rfl rfl rfl g5 ?_
    refine bk_b (q := (184, [(0, .ref 135), (1, .int l1), (2, .int l2), (3, .int l3), (4, .int l4)], [.int (0 : Int32), .int l4, .int (S.1 146 l1.toNatClampNeg), .ref 135])) tb_c_189_2 mx_189 2 rfl ?_
    obtain ⟨x7, S6, c8, h⟩ := wd_cx h
    refine bk_kv tb_c_189_2 rfl rfl rfl rfl rfl (ci := 11) rfl rfl (ev_up (Nat.le_of_ble_eq_true rfl) (sn_Mo_versionOf c8)) ?_
    refine bk_b (q := (192, [(5, .int x7), (0, .ref 135), (1, .int l1), (2, .int l2), (3, .int l3), (4, .int l4)], [.int (-1 : Int32), .int x7])) tb_c_189_2 mx_189 3 rfl ?_
    by_cases g9 : x7 = (-1 : Int32)
    · rw [if_pos g9] at h
      refine bk_jf tb_c_189_2 rfl (pc' := 195) rfl (t := 212) rfl (cm_ne_f g9) ?_
      refine bk_b (q := (200, [(4, .int (0 : Int32)), (5, .int x7), (0, .ref 135), (1, .int l1), (2, .int l2), (3, .int l3)], [.ref 135, .ref 135])) tb_c_189_2 mx_189 4 rfl ?_
      refine bk_gc tb_c_189_2 rfl rfl (ci := 11) (k := 20) rfl rfl rfl ?_
      refine bk_b (q := (204, [(4, .int (0 : Int32)), (5, .int x7), (0, .ref 135), (1, .int l1), (2, .int l2), (3, .int l3)], [.int l1, .ref 146, .ref 135])) tb_c_189_2 mx_189 1 rfl ?_
      by_cases g34 : l1 < 0 ∨ 15010 ≤ l1.toNatClampNeg
      · rw [if_pos g34] at h; cases h
      · rw [if_neg g34] at h
        refine bk_a4 tb_c_189_3 rfl rfl rfl g34 ?_
        refine bk_b (q := (207, [(4, .int (0 : Int32)), (5, .int x7), (0, .ref 135), (1, .int l1), (2, .int l2), (3, .int l3)], [.int (1 : Int32), .int (0 : Int32), .int (S6.1 146 l1.toNatClampNeg), .ref 135])) tb_c_189_3 mx_189 2 rfl ?_
        obtain ⟨x36, S35, c37, h⟩ := wd_cx h
        refine bk_kv tb_c_189_3 rfl rfl rfl rfl rfl (ci := 11) rfl rfl (ev_up (Nat.le_of_ble_eq_true rfl) (sn_Mo_versionOf c37)) ?_
        refine bk_b (q := (212, [(5, .int x36), (4, .int (0 : Int32)), (0, .ref 135), (1, .int l1), (2, .int l2), (3, .int l3)], [])) tb_c_189_3 mx_189 1 rfl ?_
        exact go_lv (ls_sc rfl rfl (ls_sc rfl rfl (ls_sc rfl rfl (ls_sc rfl rfl (ls_sc rfl rfl ls_nil))))) (sn_Mo_onCalled_212 h)
    · rw [if_neg g9] at h
      refine bk_jt tb_c_189_2 rfl (pc' := 212) rfl (cm_ne_t g9) ?_
      exact go_lv (ls_sc rfl rfl (ls_sc rfl rfl (ls_sc rfl rfl (ls_sc rfl rfl (ls_sc rfl rfl ls_nil))))) (sn_Mo_onCalled_212 h)
noncomputable def fn_Mo_onCalled_94 : Nat → Int32 → Int32 → Int32 → Int32 → Int32 → wd_S → Option wd_S
  | 0, _, _, _, _, _, _ => none
  | n + 1, l1, l2, l3, l4, l5, S =>
    (if l5 < l2 then
      (if (l3 + l5) < 0 ∨ 4000 ≤ (l3 + l5).toNatClampNeg then none else
      (if l5 < 0 ∨ 2640 ≤ l5.toNatClampNeg then none else
      (wd_b (wd_i S 158 l5.toNatClampNeg (S.1 168 (l3 + l5).toNatClampNeg)) fun S52 =>
      fn_Mo_onCalled_94 n l1 l2 l3 l4 (l5 + (1 : Int32)) S52)))
    else
      (wd_b (wd_i S 135 68 ((S.1 135 68) + (1 : Int32))) fun S39 =>
      (if l1 < 0 ∨ 15010 ≤ l1.toNatClampNeg then none else
      (if (S39.1 146 l1.toNatClampNeg) < 0 ∨ 96 ≤ (S39.1 146 l1.toNatClampNeg).toNatClampNeg then none else
      (wd_c (fn_Mo_goes (S39.1 140 (S39.1 146 l1.toNatClampNeg).toNatClampNeg) (500 : Int32) S39) fun x43 S42 =>
      (if x43 = (1 : Int32) then
        (wd_b (wd_i S42 135 69 ((S42.1 135 69) + (1 : Int32))) fun S46 =>
        (wd_d (fn_Mo_gives (1 : Int32) (S46.1 135 47) S46) fun S47 =>
        some S47))
      else
        fn_Mo_onCalled_174 l1 l2 l3 l4 S42))))))
set_option maxRecDepth 100000 in
theorem sn_Mo_onCalled_94 {L : Nat} {xs : Nat → Int32} : ∀ (n : Nat) {l1 : Int32} {l2 : Int32} {l3 : Int32} {l4 : Int32} {l5 : Int32} {S : wd_S} {S' : wd_S}, fn_Mo_onCalled_94 n l1 l2 l3 l4 l5 S = some S' → go_r tb_P L xs 3 189 94 [(0, .ref 135), (1, .int l1), (2, .int l2), (3, .int l3), (4, .int l4), (5, .int l5)] [] (wd_k S) (.inl none, wd_k S') := by
  intro n
  induction n with
  | zero => intro l1 l2 l3 l4 l5 S S'  h; cases h
  | succ n ih =>
    intro l1 l2 l3 l4 l5 S S'  h
    rw [fn_Mo_onCalled_94] at h
    refine bk_b (q := (97, [(0, .ref 135), (1, .int l1), (2, .int l2), (3, .int l3), (4, .int l4), (5, .int l5)], [.int l2, .int l5])) tb_c_189_1 mx_189 2 rfl ?_
    by_cases g38 : l5 < l2
    · rw [if_pos g38] at h
      refine bk_jf tb_c_189_1 rfl (pc' := 100) rfl (t := 122) rfl (cm_ge_f g38) ?_
      refine bk_b (q := (101, [(0, .ref 135), (1, .int l1), (2, .int l2), (3, .int l3), (4, .int l4), (5, .int l5)], [.ref 135])) tb_c_189_1 mx_189 1 rfl ?_
      refine bk_gc tb_c_189_1 rfl rfl (ci := 11) (k := 45) rfl rfl rfl ?_
      refine bk_b (q := (107, [(0, .ref 135), (1, .int l1), (2, .int l2), (3, .int l3), (4, .int l4), (5, .int l5)], [.ref 135, .int l5, .ref 158])) tb_c_189_1 mx_189 2 rfl ?_
      refine bk_gc tb_c_189_1 rfl rfl (ci := 11) (k := 78) rfl rfl rfl ?_
      refine bk_b (q := (114, [(0, .ref 135), (1, .int l1), (2, .int l2), (3, .int l3), (4, .int l4), (5, .int l5)], [.int (l3 + l5), .ref 168, .int l5, .ref 158])) tb_c_189_1 mx_189 3 rfl ?_
      by_cases g50 : (l3 + l5) < 0 ∨ 4000 ≤ (l3 + l5).toNatClampNeg
      · rw [if_pos g50] at h; cases h
      · rw [if_neg g50] at h
        refine bk_a4 tb_c_189_1 rfl rfl rfl g50 ?_
        by_cases g51 : l5 < 0 ∨ 2640 ≤ l5.toNatClampNeg
        · rw [if_pos g51] at h; cases h
        · rw [if_neg g51] at h
          obtain ⟨S52, eS52, h⟩ := wd_bx h
          refine bk_s4 tb_c_189_1 rfl rfl rfl g51 ?_
          rw [eS52]
          refine bk_b (q := (94, [(5, .int (l5 + (1 : Int32))), (0, .ref 135), (1, .int l1), (2, .int l2), (3, .int l3), (4, .int l4)], [])) tb_c_189_1 mx_189 2 rfl ?_
          exact go_lv (ls_sc rfl rfl (ls_sc rfl rfl (ls_sc rfl rfl (ls_sc rfl rfl (ls_sc rfl rfl (ls_sc rfl rfl ls_nil)))))) (ih h)
    · rw [if_neg g38] at h
      refine bk_jt tb_c_189_1 rfl (pc' := 122) rfl (cm_ge_t g38) ?_
      refine bk_b (q := (124, [(0, .ref 135), (1, .int l1), (2, .int l2), (3, .int l3), (4, .int l4), (5, .int l5)], [.ref 135, .ref 135])) tb_c_189_1 mx_189 2 rfl ?_
      refine bk_gi tb_c_189_1 rfl rfl (ci := 11) (k := 68) rfl rfl rfl ?_
      refine bk_b (q := (129, [(0, .ref 135), (1, .int l1), (2, .int l2), (3, .int l3), (4, .int l4), (5, .int l5)], [.int ((S.1 135 68) + (1 : Int32)), .ref 135])) tb_c_189_1 mx_189 2 rfl ?_
      obtain ⟨S39, eS39, h⟩ := wd_bx h
      refine bk_pi tb_c_189_1 rfl rfl (ci := 11) (k := 68) rfl rfl rfl rfl ?_
      rw [eS39]
      refine bk_b (q := (134, [(0, .ref 135), (1, .int l1), (2, .int l2), (3, .int l3), (4, .int l4), (5, .int l5)], [.ref 135, .ref 135])) tb_c_189_1 mx_189 2 rfl ?_
      refine bk_gc tb_c_189_2 rfl rfl (ci := 11) (k := 14) rfl rfl rfl ?_
      refine bk_b (q := (138, [(0, .ref 135), (1, .int l1), (2, .int l2), (3, .int l3), (4, .int l4), (5, .int l5)], [.ref 135, .ref 140, .ref 135])) tb_c_189_2 mx_189 1 rfl ?_
      refine bk_gc tb_c_189_2 rfl rfl (ci := 11) (k := 20) rfl rfl rfl ?_
      refine bk_b (q := (142, [(0, .ref 135), (1, .int l1), (2, .int l2), (3, .int l3), (4, .int l4), (5, .int l5)], [.int l1, .ref 146, .ref 140, .ref 135])) tb_c_189_2 mx_189 1 rfl ?_
      by_cases g40 : l1 < 0 ∨ 15010 ≤ l1.toNatClampNeg
      · rw [if_pos g40] at h; cases h
      · rw [if_neg g40] at h
        refine bk_a4 tb_c_189_2 rfl rfl rfl g40 ?_
        by_cases g41 : (S39.1 146 l1.toNatClampNeg) < 0 ∨ 96 ≤ (S39.1 146 l1.toNatClampNeg).toNatClampNeg
        · rw [if_pos g41] at h; cases h
        · rw [if_neg g41] at h
          refine bk_a4 tb_c_189_2 rfl rfl rfl g41 ?_
          refine bk_b (q := (147, [(0, .ref 135), (1, .int l1), (2, .int l2), (3, .int l3), (4, .int l4), (5, .int l5)], [.int (500 : Int32), .int (S39.1 140 (S39.1 146 l1.toNatClampNeg).toNatClampNeg), .ref 135])) tb_c_189_2 mx_189 1 rfl ?_
          obtain ⟨x43, S42, c44, h⟩ := wd_cx h
          refine bk_kv tb_c_189_2 rfl rfl rfl rfl rfl (ci := 11) rfl rfl (ev_up (Nat.le_of_ble_eq_true rfl) (sn_Mo_goes c44)) ?_
          refine bk_b (q := (151, [(0, .ref 135), (1, .int l1), (2, .int l2), (3, .int l3), (4, .int l4), (5, .int l5)], [.int (1 : Int32), .int x43])) tb_c_189_2 mx_189 1 rfl ?_
          by_cases g45 : x43 = (1 : Int32)
          · rw [if_pos g45] at h
            refine bk_jf tb_c_189_2 rfl (pc' := 154) rfl (t := 174) rfl (cm_ne_f g45) ?_
            refine bk_b (q := (156, [(0, .ref 135), (1, .int l1), (2, .int l2), (3, .int l3), (4, .int l4), (5, .int l5)], [.ref 135, .ref 135])) tb_c_189_2 mx_189 2 rfl ?_
            refine bk_gi tb_c_189_2 rfl rfl (ci := 11) (k := 69) rfl rfl rfl ?_
            refine bk_b (q := (161, [(0, .ref 135), (1, .int l1), (2, .int l2), (3, .int l3), (4, .int l4), (5, .int l5)], [.int ((S42.1 135 69) + (1 : Int32)), .ref 135])) tb_c_189_2 mx_189 2 rfl ?_
            obtain ⟨S46, eS46, h⟩ := wd_bx h
            refine bk_pi tb_c_189_2 rfl rfl (ci := 11) (k := 69) rfl rfl rfl rfl ?_
            rw [eS46]
            refine bk_b (q := (167, [(0, .ref 135), (1, .int l1), (2, .int l2), (3, .int l3), (4, .int l4), (5, .int l5)], [.ref 135, .int (1 : Int32), .ref 135])) tb_c_189_2 mx_189 3 rfl ?_
            refine bk_gi tb_c_189_2 rfl rfl (ci := 11) (k := 47) rfl rfl rfl ?_
            obtain ⟨S47, c49, h⟩ := wd_dx h
            refine bk_kv tb_c_189_2 rfl rfl rfl rfl rfl (ci := 11) rfl rfl (ev_up (Nat.le_of_ble_eq_true rfl) (sn_Mo_gives c49)) ?_
            cases h
            exact bk_t tb_c_189_2 rfl rfl
          · rw [if_neg g45] at h
            refine bk_jt tb_c_189_2 rfl (pc' := 174) rfl (cm_ne_t g45) ?_
            exact go_lv (ls_sc rfl rfl (ls_sc rfl rfl (ls_sc rfl rfl (ls_sc rfl rfl (ls_sc rfl rfl ls_nil))))) (sn_Mo_onCalled_174 h)
noncomputable def fn_Mo_onCalled_56 (kk28 : Int32 → Int32 → Int32 → Int32 → Int32 → wd_S → Option wd_S) (l1 : Int32) (l2 : Int32) (l3 : Int32) (l5 : Int32) (s0 : Int32) (s1 : Int32) (S : wd_S) : Option wd_S :=
  (if (l3 + l5) < 0 ∨ 4000 ≤ (l3 + l5).toNatClampNeg then none else
  (if l5 < 0 ∨ 4 ≤ l5.toNatClampNeg then none else
  (wd_b (wd_i S 171 l5.toNatClampNeg (S.1 168 (l3 + l5).toNatClampNeg)) fun S57 =>
  kk28 l1 l2 l3 (s0 ||| s1) (l5 + (1 : Int32)) S57)))
set_option maxRecDepth 100000 in
theorem sn_Mo_onCalled_56 {L : Nat} {xs : Nat → Int32} {kk28 : Int32 → Int32 → Int32 → Int32 → Int32 → wd_S → Option wd_S} (hk28 : ∀ {l1 : Int32} {l2 : Int32} {l3 : Int32} {l4 : Int32} {l5 : Int32} {S : wd_S} {S' : wd_S}, kk28 l1 l2 l3 l4 l5 S = some S' → go_r tb_P L xs 3 189 28 [(0, .ref 135), (1, .int l1), (2, .int l2), (3, .int l3), (4, .int l4), (5, .int l5)] [] (wd_k S) (.inl none, wd_k S')) {l1 : Int32} {l2 : Int32} {l3 : Int32} {l5 : Int32} {s0 : Int32} {s1 : Int32} {S : wd_S} {S' : wd_S} (h : fn_Mo_onCalled_56 kk28 l1 l2 l3 l5 s0 s1 S = some S') : go_r tb_P L xs 3 189 56 [(0, .ref 135), (1, .int l1), (2, .int l2), (3, .int l3), (5, .int l5)] [.int s1, .int s0] (wd_k S) (.inl none, wd_k S') := by
  unfold fn_Mo_onCalled_56 at h
  refine bk_b (q := (60, [(4, .int (s0 ||| s1)), (0, .ref 135), (1, .int l1), (2, .int l2), (3, .int l3), (5, .int l5)], [.ref 135])) tb_c_189_0 mx_189 3 rfl ?_
  refine bk_gc tb_c_189_0 rfl rfl (ci := 11) (k := 82) rfl rfl rfl ?_
  refine bk_b (q := (66, [(4, .int (s0 ||| s1)), (0, .ref 135), (1, .int l1), (2, .int l2), (3, .int l3), (5, .int l5)], [.ref 135, .int l5, .ref 171])) tb_c_189_0 mx_189 2 rfl ?_
  refine bk_gc tb_c_189_1 rfl rfl (ci := 11) (k := 78) rfl rfl rfl ?_
  refine bk_b (q := (73, [(4, .int (s0 ||| s1)), (0, .ref 135), (1, .int l1), (2, .int l2), (3, .int l3), (5, .int l5)], [.int (l3 + l5), .ref 168, .int l5, .ref 171])) tb_c_189_1 mx_189 3 rfl ?_
  by_cases g55 : (l3 + l5) < 0 ∨ 4000 ≤ (l3 + l5).toNatClampNeg
  · rw [if_pos g55] at h; cases h
  · rw [if_neg g55] at h
    refine bk_a4 tb_c_189_1 rfl rfl rfl g55 ?_
    by_cases g56 : l5 < 0 ∨ 4 ≤ l5.toNatClampNeg
    · rw [if_pos g56] at h; cases h
    · rw [if_neg g56] at h
      obtain ⟨S57, eS57, h⟩ := wd_bx h
      refine bk_s4 tb_c_189_1 rfl rfl rfl g56 ?_
      rw [eS57]
      refine bk_b (q := (28, [(5, .int (l5 + (1 : Int32))), (4, .int (s0 ||| s1)), (0, .ref 135), (1, .int l1), (2, .int l2), (3, .int l3)], [])) tb_c_189_1 mx_189 2 rfl ?_
      exact go_lv (ls_sc rfl rfl (ls_sc rfl rfl (ls_sc rfl rfl (ls_sc rfl rfl (ls_sc rfl rfl (ls_sc rfl rfl ls_nil)))))) (hk28 h)
noncomputable def fn_Mo_onCalled_28 : Nat → Int32 → Int32 → Int32 → Int32 → Int32 → wd_S → Option wd_S
  | 0, _, _, _, _, _, _ => none
  | n + 1, l1, l2, l3, l4, l5, S =>
    (if l5 < l2 then
      (if (l3 + l5) < 0 ∨ 4000 ≤ (l3 + l5).toNatClampNeg then none else
      (if (S.1 167 (l3 + l5).toNatClampNeg) = 0 then
        fn_Mo_onCalled_56 (fn_Mo_onCalled_28 n) l1 l2 l3 l5 l4 (0 : Int32) S
      else
        fn_Mo_onCalled_56 (fn_Mo_onCalled_28 n) l1 l2 l3 l5 l4 ((1 : Int32) <<< (l5 &&& 31)) S))
    else
      (if l4 = (((1 : Int32) <<< (l2 &&& 31)) - (1 : Int32)) then
        fn_Mo_onCalled_94 wd_F l1 l2 l3 l4 (0 : Int32) S
      else
        fn_Mo_onCalled_174 l1 l2 l3 l4 S))
set_option maxRecDepth 100000 in
theorem sn_Mo_onCalled_28 {L : Nat} {xs : Nat → Int32} : ∀ (n : Nat) {l1 : Int32} {l2 : Int32} {l3 : Int32} {l4 : Int32} {l5 : Int32} {S : wd_S} {S' : wd_S}, fn_Mo_onCalled_28 n l1 l2 l3 l4 l5 S = some S' → go_r tb_P L xs 3 189 28 [(0, .ref 135), (1, .int l1), (2, .int l2), (3, .int l3), (4, .int l4), (5, .int l5)] [] (wd_k S) (.inl none, wd_k S') := by
  intro n
  induction n with
  | zero => intro l1 l2 l3 l4 l5 S S'  h; cases h
  | succ n ih =>
    intro l1 l2 l3 l4 l5 S S'  h
    rw [fn_Mo_onCalled_28] at h
    refine bk_b (q := (31, [(0, .ref 135), (1, .int l1), (2, .int l2), (3, .int l3), (4, .int l4), (5, .int l5)], [.int l2, .int l5])) tb_c_189_0 mx_189 2 rfl ?_
    by_cases g3 : l5 < l2
    · rw [if_pos g3] at h
      refine bk_jf tb_c_189_0 rfl (pc' := 34) rfl (t := 81) rfl (cm_ge_f g3) ?_
      refine bk_b (q := (37, [(0, .ref 135), (1, .int l1), (2, .int l2), (3, .int l3), (4, .int l4), (5, .int l5)], [.ref 135, .int l4])) tb_c_189_0 mx_189 2 rfl ?_
      refine bk_gc tb_c_189_0 rfl rfl (ci := 11) (k := 77) rfl rfl rfl ?_
      refine bk_b (q := (44, [(0, .ref 135), (1, .int l1), (2, .int l2), (3, .int l3), (4, .int l4), (5, .int l5)], [.int (l3 + l5), .ref 167, .int l4])) tb_c_189_0 mx_189 3 rfl ?_
      by_cases g53 : (l3 + l5) < 0 ∨ 4000 ≤ (l3 + l5).toNatClampNeg
      · rw [if_pos g53] at h; cases h
      · rw [if_neg g53] at h
        refine bk_a1 tb_c_189_0 rfl rfl rfl g53 ?_
        by_cases g54 : (S.1 167 (l3 + l5).toNatClampNeg) = 0
        · rw [if_pos g54] at h
          refine bk_zt tb_c_189_0 rfl (pc' := 55) rfl (cm_eq_t g54) ?_
          refine bk_b (q := (56, [(0, .ref 135), (1, .int l1), (2, .int l2), (3, .int l3), (4, .int l4), (5, .int l5)], [.int (0 : Int32), .int l4])) tb_c_189_0 mx_189 1 rfl ?_
          exact go_lv (ls_sc rfl rfl (ls_sc rfl rfl (ls_sc rfl rfl (ls_sc rfl rfl (ls_sc rfl rfl ls_nil))))) (sn_Mo_onCalled_56 ih h)
        · rw [if_neg g54] at h
          refine bk_zf tb_c_189_0 rfl (pc' := 48) rfl (t := 55) rfl (cm_eq_f g54) ?_
          refine bk_b (q := (56, [(0, .ref 135), (1, .int l1), (2, .int l2), (3, .int l3), (4, .int l4), (5, .int l5)], [.int ((1 : Int32) <<< (l5 &&& 31)), .int l4])) tb_c_189_0 mx_189 4 rfl ?_
          exact go_lv (ls_sc rfl rfl (ls_sc rfl rfl (ls_sc rfl rfl (ls_sc rfl rfl (ls_sc rfl rfl ls_nil))))) (sn_Mo_onCalled_56 ih h)
    · rw [if_neg g3] at h
      refine bk_jt tb_c_189_0 rfl (pc' := 81) rfl (cm_ge_t g3) ?_
      refine bk_b (q := (88, [(0, .ref 135), (1, .int l1), (2, .int l2), (3, .int l3), (4, .int l4), (5, .int l5)], [.int (((1 : Int32) <<< (l2 &&& 31)) - (1 : Int32)), .int l4])) tb_c_189_1 mx_189 6 rfl ?_
      by_cases g4 : l4 = (((1 : Int32) <<< (l2 &&& 31)) - (1 : Int32))
      · rw [if_pos g4] at h
        refine bk_jf tb_c_189_1 rfl (pc' := 91) rfl (t := 174) rfl (cm_ne_f g4) ?_
        refine bk_b (q := (94, [(5, .int (0 : Int32)), (0, .ref 135), (1, .int l1), (2, .int l2), (3, .int l3), (4, .int l4)], [])) tb_c_189_1 mx_189 2 rfl ?_
        exact go_lv (ls_sc rfl rfl (ls_sc rfl rfl (ls_sc rfl rfl (ls_sc rfl rfl (ls_sc rfl rfl (ls_sc rfl rfl ls_nil)))))) (sn_Mo_onCalled_94 wd_F h)
      · rw [if_neg g4] at h
        refine bk_jt tb_c_189_1 rfl (pc' := 174) rfl (cm_ne_t g4) ?_
        exact go_lv (ls_sc rfl rfl (ls_sc rfl rfl (ls_sc rfl rfl (ls_sc rfl rfl (ls_sc rfl rfl ls_nil))))) (sn_Mo_onCalled_174 h)
/-- SpecialiserModel.onCalled(I)V -/
noncomputable def fn_Mo_onCalled (p1 : Int32) (S : wd_S) : Option wd_S :=
  (if p1 < 0 ∨ 15010 ≤ p1.toNatClampNeg then none else
  (wd_b (wd_i S 135 79 ((S.1 135 79) - (S.1 145 p1.toNatClampNeg))) fun S2 =>
  fn_Mo_onCalled_28 wd_F p1 (S.1 145 p1.toNatClampNeg) (S2.1 135 79) (0 : Int32) (0 : Int32) S2))
set_option maxRecDepth 100000 in
theorem sn_Mo_onCalled {L : Nat} {xs : Nat → Int32} {p1 : Int32} {S : wd_S} {S' : wd_S} (h : fn_Mo_onCalled p1 S = some S') : ev_r tb_P L xs (3 + 1) 189 [.ref 135, .int p1] (wd_k S) (.inl none, wd_k S') := by
  unfold fn_Mo_onCalled at h
  refine ev_of (Nat.le_of_ble_eq_true rfl) ?_
  show go_r tb_P L xs 3 189 0 [(0, .ref 135), (1, .int p1)] [] (wd_k S) (.inl none, wd_k S')
  refine bk_b (q := (1, [(0, .ref 135), (1, .int p1)], [.ref 135])) tb_c_189_0 mx_189 1 rfl ?_
  refine bk_gc tb_c_189_0 rfl rfl (ci := 11) (k := 19) rfl rfl rfl ?_
  refine bk_b (q := (5, [(0, .ref 135), (1, .int p1)], [.int p1, .ref 145])) tb_c_189_0 mx_189 1 rfl ?_
  by_cases g1 : p1 < 0 ∨ 15010 ≤ p1.toNatClampNeg
  · rw [if_pos g1] at h; cases h
  · rw [if_neg g1] at h
    refine bk_a4 tb_c_189_0 rfl rfl rfl g1 ?_
    refine bk_b (q := (9, [(2, .int (S.1 145 p1.toNatClampNeg)), (0, .ref 135), (1, .int p1)], [.ref 135, .ref 135])) tb_c_189_0 mx_189 3 rfl ?_
    refine bk_gi tb_c_189_0 rfl rfl (ci := 11) (k := 79) rfl rfl rfl ?_
    refine bk_b (q := (14, [(2, .int (S.1 145 p1.toNatClampNeg)), (0, .ref 135), (1, .int p1)], [.int ((S.1 135 79) - (S.1 145 p1.toNatClampNeg)), .ref 135])) tb_c_189_0 mx_189 2 rfl ?_
    obtain ⟨S2, eS2, h⟩ := wd_bx h
    refine bk_pi tb_c_189_0 rfl rfl (ci := 11) (k := 79) rfl rfl rfl rfl ?_
    rw [eS2]
    refine bk_b (q := (18, [(2, .int (S.1 145 p1.toNatClampNeg)), (0, .ref 135), (1, .int p1)], [.ref 135])) tb_c_189_0 mx_189 1 rfl ?_
    refine bk_gi tb_c_189_0 rfl rfl (ci := 11) (k := 79) rfl rfl rfl ?_
    refine bk_b (q := (28, [(5, .int (0 : Int32)), (4, .int (0 : Int32)), (3, .int (S2.1 135 79)), (2, .int (S.1 145 p1.toNatClampNeg)), (0, .ref 135), (1, .int p1)], [])) tb_c_189_0 mx_189 5 rfl ?_
    exact go_lv (ls_sc rfl rfl (ls_sc rfl rfl (ls_sc rfl rfl (ls_sc rfl rfl (ls_sc rfl rfl (ls_sc rfl rfl ls_nil)))))) (sn_Mo_onCalled_28 wd_F h)
