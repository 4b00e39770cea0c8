/-! Methods as functions: printed by wip/whole/gen_fn.py. -/
theorem mx_134 : mi_mx tb_P 134 = 3 := rfl
/-- Specialiser$Printer.showIf(II)V -/
noncomputable def fn_Printer_showIf (slf : Nat → Int32 → Int32 → wd_S → Option wd_S) (p1 : Int32) (p2 : Int32) (S : wd_S) : Option wd_S :=
  (wd_d (fn_Printer_putText 24 S) fun S1 =>
  (if tp_t (S1.2.2.1 128 3) = (0, 8) then
    (wd_c (fn_Trees_part (S1.2.2.1 128 3) p1 (0 : Int32) S1) fun x6 S5 =>
    (wd_d (slf 130 x6 (p2 + (1 : Int32)) S5) fun S8 =>
    (wd_d (fn_Printer_putText 25 S8) fun S11 =>
    (if tp_t (S11.2.2.1 128 3) = (0, 8) then
      (wd_c (fn_Trees_part (S11.2.2.1 128 3) p1 (1 : Int32) S11) fun x16 S15 =>
      (wd_d (slf 130 x16 (p2 + (1 : Int32)) S15) fun S18 =>
      (wd_d (fn_Printer_putText 26 S18) fun S21 =>
      (if tp_t (S21.2.2.1 128 3) = (0, 8) then
        (wd_c (fn_Trees_part (S21.2.2.1 128 3) p1 (2 : Int32) S21) fun x26 S25 =>
        (wd_d (slf 130 x26 (p2 + (1 : Int32)) S25) fun S28 =>
        (wd_d (fn_Printer_put (41 : Int32) S28) fun S31 =>
        some S31)))
      else none))))
    else none))))
  else none))
set_option maxRecDepth 100000 in
theorem sn_Printer_showIf {L : Nat} {xs : Nat → Int32} {D : Nat} {slf : Nat → Int32 → Int32 → wd_S → Option wd_S} (hD : 4 ≤ D) (hs130 : ∀ {a b : Int32} {S : wd_S} {S' : wd_S}, slf 130 a b S = some S' → ev_r tb_P L xs D 130 [.ref 128, .int a, .int b] (wd_k S) (.inl none, wd_k S')) (hs133 : ∀ {a b : Int32} {S : wd_S} {S' : wd_S}, slf 133 a b S = some S' → ev_r tb_P L xs D 133 [.ref 128, .int a, .int b] (wd_k S) (.inl none, wd_k S')) (hs134 : ∀ {a b : Int32} {S : wd_S} {S' : wd_S}, slf 134 a b S = some S' → ev_r tb_P L xs D 134 [.ref 128, .int a, .int b] (wd_k S) (.inl none, wd_k S')) (hs135 : ∀ {a b : Int32} {S : wd_S} {S' : wd_S}, slf 135 a b S = some S' → ev_r tb_P L xs D 135 [.ref 128, .int a, .int b] (wd_k S) (.inl none, wd_k S')) (hs136 : ∀ {a b : Int32} {S : wd_S} {S' : wd_S}, slf 136 a b S = some S' → ev_r tb_P L xs D 136 [.ref 128, .int a, .int b] (wd_k S) (.inl none, wd_k S')) {p1 : Int32} {p2 : Int32} {S : wd_S} {S' : wd_S} (h : fn_Printer_showIf slf p1 p2 S = some S') : ev_r tb_P L xs (D + 1) 134 [.ref 128, .int p1, .int p2] (wd_k S) (.inl none, wd_k S') := by
  unfold fn_Printer_showIf at h
  refine ev_of (Nat.le_of_ble_eq_true rfl) ?_
  show go_r tb_P L xs D 134 0 [(0, .ref 128), (1, .int p1), (2, .int p2)] [] (wd_k S) (.inl none, wd_k S')
  refine bk_b (q := (1, [(0, .ref 128), (1, .int p1), (2, .int p2)], [.ref 128])) tb_c_134_0 mx_134 1 rfl ?_
  refine bk_ct tb_c_134_0 rfl rfl (x := 24) rfl ?_
  obtain ⟨S1, c3, h⟩ := wd_dx h
  refine bk_kv tb_c_134_0 rfl rfl rfl rfl rfl (ci := 3) rfl rfl (ev_up (Nat.le_trans (Nat.le_of_ble_eq_true rfl) hD) (sn_Printer_putText c3)) ?_
  refine bk_b (q := (8, [(0, .ref 128), (1, .int p1), (2, .int p2)], [.ref 128, .ref 128])) tb_c_134_0 mx_134 2 rfl ?_
  refine bk_gm tb_c_134_0 rfl rfl (ci := 3) (k := 3) rfl rfl rfl ?_
  by_cases g4 : tp_t (S1.2.2.1 128 3) = (0, 8)
  · rw [if_pos g4] at h
    refine bk_b (q := (13, [(0, .ref 128), (1, .int p1), (2, .int p2)], [.int (0 : Int32), .int p1, .ref (S1.2.2.1 128 3), .ref 128])) tb_c_134_0 mx_134 2 rfl ?_
    obtain ⟨x6, S5, c7, h⟩ := wd_cx h
    refine bk_kv tb_c_134_0 rfl rfl rfl rfl rfl (ci := 8) g4 rfl (ev_up (Nat.le_trans (Nat.le_of_ble_eq_true rfl) hD) (sn_Trees_part g4 c7)) ?_
    refine bk_b (q := (19, [(0, .ref 128), (1, .int p1), (2, .int p2)], [.int (p2 + (1 : Int32)), .int x6, .ref 128])) tb_c_134_0 mx_134 3 rfl ?_
    obtain ⟨S8, c10, h⟩ := wd_dx h
    refine bk_kv tb_c_134_0 rfl rfl rfl rfl rfl (ci := 3) rfl rfl (hs130 c10) ?_
    refine bk_b (q := (23, [(0, .ref 128), (1, .int p1), (2, .int p2)], [.ref 128])) tb_c_134_0 mx_134 1 rfl ?_
    refine bk_ct tb_c_134_0 rfl rfl (x := 25) rfl ?_
    obtain ⟨S11, c13, h⟩ := wd_dx h
    refine bk_kv tb_c_134_0 rfl rfl rfl rfl rfl (ci := 3) rfl rfl (ev_up (Nat.le_trans (Nat.le_of_ble_eq_true rfl) hD) (sn_Printer_putText c13)) ?_
    refine bk_b (q := (30, [(0, .ref 128), (1, .int p1), (2, .int p2)], [.ref 128, .ref 128])) tb_c_134_0 mx_134 2 rfl ?_
    refine bk_gm tb_c_134_0 rfl rfl (ci := 3) (k := 3) rfl rfl rfl ?_
    by_cases g14 : tp_t (S11.2.2.1 128 3) = (0, 8)
    · rw [if_pos g14] at h
      refine bk_b (q := (35, [(0, .ref 128), (1, .int p1), (2, .int p2)], [.int (1 : Int32), .int p1, .ref (S11.2.2.1 128 3), .ref 128])) tb_c_134_0 mx_134 2 rfl ?_
      obtain ⟨x16, S15, c17, h⟩ := wd_cx h
      refine bk_kv tb_c_134_0 rfl rfl rfl rfl rfl (ci := 8) g14 rfl (ev_up (Nat.le_trans (Nat.le_of_ble_eq_true rfl) hD) (sn_Trees_part g14 c17)) ?_
      refine bk_b (q := (41, [(0, .ref 128), (1, .int p1), (2, .int p2)], [.int (p2 + (1 : Int32)), .int x16, .ref 128])) tb_c_134_0 mx_134 3 rfl ?_
      obtain ⟨S18, c20, h⟩ := wd_dx h
      refine bk_kv tb_c_134_0 rfl rfl rfl rfl rfl (ci := 3) rfl rfl (hs130 c20) ?_
      refine bk_b (q := (45, [(0, .ref 128), (1, .int p1), (2, .int p2)], [.ref 128])) tb_c_134_0 mx_134 1 rfl ?_
      refine bk_ct tb_c_134_0 rfl rfl (x := 26) rfl ?_
      obtain ⟨S21, c23, h⟩ := wd_dx h
      refine bk_kv tb_c_134_0 rfl rfl rfl rfl rfl (ci := 3) rfl rfl (ev_up (Nat.le_trans (Nat.le_of_ble_eq_true rfl) hD) (sn_Printer_putText c23)) ?_
      refine bk_b (q := (52, [(0, .ref 128), (1, .int p1), (2, .int p2)], [.ref 128, .ref 128])) tb_c_134_0 mx_134 2 rfl ?_
      refine bk_gm tb_c_134_0 rfl rfl (ci := 3) (k := 3) rfl rfl rfl ?_
      by_cases g24 : tp_t (S21.2.2.1 128 3) = (0, 8)
      · rw [if_pos g24] at h
        refine bk_b (q := (57, [(0, .ref 128), (1, .int p1), (2, .int p2)], [.int (2 : Int32), .int p1, .ref (S21.2.2.1 128 3), .ref 128])) tb_c_134_0 mx_134 2 rfl ?_
        obtain ⟨x26, S25, c27, h⟩ := wd_cx h
        refine bk_kv tb_c_134_0 rfl rfl rfl rfl rfl (ci := 8) g24 rfl (ev_up (Nat.le_trans (Nat.le_of_ble_eq_true rfl) hD) (sn_Trees_part g24 c27)) ?_
        refine bk_b (q := (63, [(0, .ref 128), (1, .int p1), (2, .int p2)], [.int (p2 + (1 : Int32)), .int x26, .ref 128])) tb_c_134_0 mx_134 3 rfl ?_
        obtain ⟨S28, c30, h⟩ := wd_dx h
        refine bk_kv tb_c_134_0 rfl rfl rfl rfl rfl (ci := 3) rfl rfl (hs130 c30) ?_
        refine bk_b (q := (67, [(0, .ref 128), (1, .int p1), (2, .int p2)], [.ref 128])) tb_c_134_0 mx_134 1 rfl ?_
        refine bk_b (q := (69, [(0, .ref 128), (1, .int p1), (2, .int p2)], [.int (41 : Int32), .ref 128])) tb_c_134_1 mx_134 1 rfl ?_
        obtain ⟨S31, c33, h⟩ := wd_dx h
        refine bk_kv tb_c_134_1 rfl rfl rfl rfl rfl (ci := 3) rfl rfl (ev_up (Nat.le_trans (Nat.le_of_ble_eq_true rfl) hD) (sn_Printer_put c33)) ?_
        cases h
        exact bk_t tb_c_134_1 rfl rfl
      · rw [if_neg g24] at h; cases h
    · rw [if_neg g14] at h; cases h
  · rw [if_neg g4] at h; cases h
theorem mx_135 : mi_mx tb_P 135 = 4 := rfl
noncomputable def fn_Printer_showCall_80 (slf : Nat → Int32 → Int32 → wd_S → Option wd_S) (S : wd_S) : Option wd_S :=
  (wd_d (fn_Printer_put (41 : Int32) S) fun S15 =>
  some S15)
set_option maxRecDepth 100000 in
theorem sn_Printer_showCall_80 {L : Nat} {xs : Nat → Int32} {D : Nat} {slf : Nat → Int32 → Int32 → wd_S → Option wd_S} (hD : 4 ≤ D) (hs130 : ∀ {a b : Int32} {S : wd_S} {S' : wd_S}, slf 130 a b S = some S' → ev_r tb_P L xs D 130 [.ref 128, .int a, .int b] (wd_k S) (.inl none, wd_k S')) (hs133 : ∀ {a b : Int32} {S : wd_S} {S' : wd_S}, slf 133 a b S = some S' → ev_r tb_P L xs D 133 [.ref 128, .int a, .int b] (wd_k S) (.inl none, wd_k S')) (hs134 : ∀ {a b : Int32} {S : wd_S} {S' : wd_S}, slf 134 a b S = some S' → ev_r tb_P L xs D 134 [.ref 128, .int a, .int b] (wd_k S) (.inl none, wd_k S')) (hs135 : ∀ {a b : Int32} {S : wd_S} {S' : wd_S}, slf 135 a b S = some S' → ev_r tb_P L xs D 135 [.ref 128, .int a, .int b] (wd_k S) (.inl none, wd_k S')) (hs136 : ∀ {a b : Int32} {S : wd_S} {S' : wd_S}, slf 136 a b S = some S' → ev_r tb_P L xs D 136 [.ref 128, .int a, .int b] (wd_k S) (.inl none, wd_k S')) {S : wd_S} {S' : wd_S} (h : fn_Printer_showCall_80 slf  S = some S') : go_r tb_P L xs D 135 80 [(0, .ref 128)] [] (wd_k S) (.inl none, wd_k S') := by
  unfold fn_Printer_showCall_80 at h
  refine bk_b (q := (83, [(0, .ref 128)], [.int (41 : Int32), .ref 128])) tb_c_135_1 mx_135 2 rfl ?_
  obtain ⟨S15, c17, h⟩ := wd_dx h
  refine bk_kv tb_c_135_1 rfl rfl rfl rfl rfl (ci := 3) rfl rfl (ev_up (Nat.le_trans (Nat.le_of_ble_eq_true rfl) hD) (sn_Printer_put c17)) ?_
  cases h
  exact bk_t tb_c_135_1 rfl rfl
noncomputable def fn_Printer_showCall_55 (slf : Nat → Int32 → Int32 → wd_S → Option wd_S) (kk26 : Int32 → Int32 → Int32 → wd_S → Option wd_S) (l1 : Int32) (l2 : Int32) (l3 : Int32) (s1 : Nat) (S : wd_S) : Option wd_S :=
  (wd_d (fn_Printer_putText s1 S) fun S24 =>
  (if tp_t (S24.2.2.1 128 3) = (0, 8) then
    (wd_c (fn_Trees_part (S24.2.2.1 128 3) l1 l3 S24) fun x29 S28 =>
    (wd_d (slf 130 x29 (l2 + (1 : Int32)) S28) fun S31 =>
    kk26 l1 l2 (l3 + (1 : Int32)) S31))
  else none))
set_option maxRecDepth 100000 in
theorem sn_Printer_showCall_55 {L : Nat} {xs : Nat → Int32} {D : Nat} {slf : Nat → Int32 → Int32 → wd_S → Option wd_S} (hD : 4 ≤ D) (hs130 : ∀ {a b : Int32} {S : wd_S} {S' : wd_S}, slf 130 a b S = some S' → ev_r tb_P L xs D 130 [.ref 128, .int a, .int b] (wd_k S) (.inl none, wd_k S')) (hs133 : ∀ {a b : Int32} {S : wd_S} {S' : wd_S}, slf 133 a b S = some S' → ev_r tb_P L xs D 133 [.ref 128, .int a, .int b] (wd_k S) (.inl none, wd_k S')) (hs134 : ∀ {a b : Int32} {S : wd_S} {S' : wd_S}, slf 134 a b S = some S' → ev_r tb_P L xs D 134 [.ref 128, .int a, .int b] (wd_k S) (.inl none, wd_k S')) (hs135 : ∀ {a b : Int32} {S : wd_S} {S' : wd_S}, slf 135 a b S = some S' → ev_r tb_P L xs D 135 [.ref 128, .int a, .int b] (wd_k S) (.inl none, wd_k S')) (hs136 : ∀ {a b : Int32} {S : wd_S} {S' : wd_S}, slf 136 a b S = some S' → ev_r tb_P L xs D 136 [.ref 128, .int a, .int b] (wd_k S) (.inl none, wd_k S')) {kk26 : Int32 → Int32 → Int32 → wd_S → Option wd_S} (hk26 : ∀ {l1 : Int32} {l2 : Int32} {l3 : Int32} {S : wd_S} {S' : wd_S}, kk26 l1 l2 l3 S = some S' → go_r tb_P L xs D 135 26 [(0, .ref 128), (1, .int l1), (2, .int l2), (3, .int l3)] [] (wd_k S) (.inl none, wd_k S')) {l1 : Int32} {l2 : Int32} {l3 : Int32} {s1 : Nat} {S : wd_S} {S' : wd_S} (h : fn_Printer_showCall_55 slf kk26 l1 l2 l3 s1 S = some S') : go_r tb_P L xs D 135 55 [(0, .ref 128), (1, .int l1), (2, .int l2), (3, .int l3)] [.retAddr s1, .ref 128] (wd_k S) (.inl none, wd_k S') := by
  unfold fn_Printer_showCall_55 at h
  obtain ⟨S24, c26, h⟩ := wd_dx h
  refine bk_kv tb_c_135_0 rfl rfl rfl rfl rfl (ci := 3) rfl rfl (ev_up (Nat.le_trans (Nat.le_of_ble_eq_true rfl) hD) (sn_Printer_putText c26)) ?_
  refine bk_b (q := (60, [(0, .ref 128), (1, .int l1), (2, .int l2), (3, .int l3)], [.ref 128, .ref 128])) tb_c_135_0 mx_135 2 rfl ?_
  refine bk_gm tb_c_135_0 rfl rfl (ci := 3) (k := 3) rfl rfl rfl ?_
  by_cases g27 : tp_t (S24.2.2.1 128 3) = (0, 8)
  · rw [if_pos g27] at h
    refine bk_b (q := (65, [(0, .ref 128), (1, .int l1), (2, .int l2), (3, .int l3)], [.int l3, .int l1, .ref (S24.2.2.1 128 3), .ref 128])) tb_c_135_0 mx_135 2 rfl ?_
    obtain ⟨x29, S28, c30, h⟩ := wd_cx h
    refine bk_kv tb_c_135_0 rfl rfl rfl rfl rfl (ci := 8) g27 rfl (ev_up (Nat.le_trans (Nat.le_of_ble_eq_true rfl) hD) (sn_Trees_part g27 c30)) ?_
    refine bk_b (q := (71, [(0, .ref 128), (1, .int l1), (2, .int l2), (3, .int l3)], [.int (l2 + (1 : Int32)), .int x29, .ref 128])) tb_c_135_0 mx_135 3 rfl ?_
    obtain ⟨S31, c33, h⟩ := wd_dx h
    refine bk_kv tb_c_135_0 rfl rfl rfl rfl rfl (ci := 3) rfl rfl (hs130 c33) ?_
    refine bk_b (q := (26, [(3, .int (l3 + (1 : Int32))), (0, .ref 128), (1, .int l1), (2, .int l2)], [])) tb_c_135_1 mx_135 2 rfl ?_
    exact go_lv (ls_sc rfl rfl (ls_sc rfl rfl (ls_sc rfl rfl (ls_sc rfl rfl ls_nil)))) (hk26 h)
  · rw [if_neg g27] at h; cases h
noncomputable def fn_Printer_showCall_26 (slf : Nat → Int32 → Int32 → wd_S → Option wd_S) : Nat → Int32 → Int32 → Int32 → wd_S → Option wd_S
  | 0, _, _, _, _ => none
  | n + 1, l1, l2, l3, S =>
    (if l3 < (4 : Int32) then
      (if tp_t (S.2.2.1 128 3) = (0, 8) then
        (wd_c (fn_Trees_parts (S.2.2.1 128 3) l1 S) fun x20 S19 =>
        (if l3 < x20 then
          (if l3 = 0 then
            fn_Printer_showCall_55 slf (fn_Printer_showCall_26 slf n) l1 l2 l3 16 S19
          else
            fn_Printer_showCall_55 slf (fn_Printer_showCall_26 slf n) l1 l2 l3 17 S19)
        else
          fn_Printer_showCall_80 slf  S19))
      else none)
    else
      fn_Printer_showCall_80 slf  S)
set_option maxRecDepth 100000 in
theorem sn_Printer_showCall_26 {L : Nat} {xs : Nat → Int32} {D : Nat} {slf : Nat → Int32 → Int32 → wd_S → Option wd_S} (hD : 4 ≤ D) (hs130 : ∀ {a b : Int32} {S : wd_S} {S' : wd_S}, slf 130 a b S = some S' → ev_r tb_P L xs D 130 [.ref 128, .int a, .int b] (wd_k S) (.inl none, wd_k S')) (hs133 : ∀ {a b : Int32} {S : wd_S} {S' : wd_S}, slf 133 a b S = some S' → ev_r tb_P L xs D 133 [.ref 128, .int a, .int b] (wd_k S) (.inl none, wd_k S')) (hs134 : ∀ {a b : Int32} {S : wd_S} {S' : wd_S}, slf 134 a b S = some S' → ev_r tb_P L xs D 134 [.ref 128, .int a, .int b] (wd_k S) (.inl none, wd_k S')) (hs135 : ∀ {a b : Int32} {S : wd_S} {S' : wd_S}, slf 135 a b S = some S' → ev_r tb_P L xs D 135 [.ref 128, .int a, .int b] (wd_k S) (.inl none, wd_k S')) (hs136 : ∀ {a b : Int32} {S : wd_S} {S' : wd_S}, slf 136 a b S = some S' → ev_r tb_P L xs D 136 [.ref 128, .int a, .int b] (wd_k S) (.inl none, wd_k S')) : ∀ (n : Nat) {l1 : Int32} {l2 : Int32} {l3 : Int32} {S : wd_S} {S' : wd_S}, fn_Printer_showCall_26 slf n l1 l2 l3 S = some S' → go_r tb_P L xs D 135 26 [(0, .ref 128), (1, .int l1), (2, .int l2), (3, .int l3)] [] (wd_k S) (.inl none, wd_k S') := by
  intro n
  induction n with
  | zero => intro l1 l2 l3 S S'  h; cases h
  | succ n ih =>
    intro l1 l2 l3 S S'  h
    rw [fn_Printer_showCall_26] at h
    refine bk_b (q := (28, [(0, .ref 128), (1, .int l1), (2, .int l2), (3, .int l3)], [.int (4 : Int32), .int l3])) tb_c_135_0 mx_135 2 rfl ?_
    by_cases g14 : l3 < (4 : Int32)
    · rw [if_pos g14] at h
      refine bk_jf tb_c_135_0 rfl (pc' := 31) rfl (t := 80) rfl (cm_ge_f g14) ?_
      refine bk_b (q := (33, [(0, .ref 128), (1, .int l1), (2, .int l2), (3, .int l3)], [.ref 128, .int l3])) tb_c_135_0 mx_135 2 rfl ?_
      refine bk_gm tb_c_135_0 rfl rfl (ci := 3) (k := 3) rfl rfl rfl ?_
      by_cases g18 : tp_t (S.2.2.1 128 3) = (0, 8)
      · rw [if_pos g18] at h
        refine bk_b (q := (37, [(0, .ref 128), (1, .int l1), (2, .int l2), (3, .int l3)], [.int l1, .ref (S.2.2.1 128 3), .int l3])) tb_c_135_0 mx_135 1 rfl ?_
        obtain ⟨x20, S19, c21, h⟩ := wd_cx h
        refine bk_kv tb_c_135_0 rfl rfl rfl rfl rfl (ci := 8) g18 rfl (ev_up (Nat.le_trans (Nat.le_of_ble_eq_true rfl) hD) (sn_Trees_parts g18 c21)) ?_
        by_cases g22 : l3 < x20
        · rw [if_pos g22] at h
          refine bk_jf tb_c_135_0 rfl (pc' := 43) rfl (t := 80) rfl (cm_ge_f g22) ?_
          refine bk_b (q := (45, [(0, .ref 128), (1, .int l1), (2, .int l2), (3, .int l3)], [.int l3, .ref 128])) tb_c_135_0 mx_135 2 rfl ?_
          by_cases g23 : l3 = 0
          · rw [if_pos g23] at h
            refine bk_zf tb_c_135_0 rfl (pc' := 48) rfl (t := 53) rfl (cm_ne_f g23) ?_
            refine bk_ct tb_c_135_0 rfl rfl (x := 16) rfl ?_
            refine bk_b (q := (55, [(0, .ref 128), (1, .int l1), (2, .int l2), (3, .int l3)], [.retAddr 16, .ref 128])) tb_c_135_0 mx_135 1 rfl ?_
            exact go_lv (ls_sc rfl rfl (ls_sc rfl rfl (ls_sc rfl rfl (ls_sc rfl rfl ls_nil)))) (sn_Printer_showCall_55 hD hs130 hs133 hs134 hs135 hs136 ih h)
          · rw [if_neg g23] at h
            refine bk_zt tb_c_135_0 rfl (pc' := 53) rfl (cm_ne_t g23) ?_
            refine bk_ct tb_c_135_0 rfl rfl (x := 17) rfl ?_
            exact go_lv (ls_sc rfl rfl (ls_sc rfl rfl (ls_sc rfl rfl (ls_sc rfl rfl ls_nil)))) (sn_Printer_showCall_55 hD hs130 hs133 hs134 hs135 hs136 ih h)
        · rw [if_neg g22] at h
          refine bk_jt tb_c_135_0 rfl (pc' := 80) rfl (cm_ge_t g22) ?_
          exact go_lv (ls_sc rfl rfl ls_nil) (sn_Printer_showCall_80 hD hs130 hs133 hs134 hs135 hs136 h)
      · rw [if_neg g18] at h; cases h
    · rw [if_neg g14] at h
      refine bk_jt tb_c_135_0 rfl (pc' := 80) rfl (cm_ge_t g14) ?_
      exact go_lv (ls_sc rfl rfl ls_nil) (sn_Printer_showCall_80 hD hs130 hs133 hs134 hs135 hs136 h)
/-- Specialiser$Printer.showCall(II)V -/
noncomputable def fn_Printer_showCall (slf : Nat → Int32 → Int32 → wd_S → Option wd_S) (p1 : Int32) (p2 : Int32) (S : wd_S) : Option wd_S :=
  (wd_d (fn_Printer_put (118 : Int32) S) fun S1 =>
  (if tp_t (S1.2.2.1 128 3) = (0, 8) then
    (wd_c (fn_Trees_value (S1.2.2.1 128 3) p1 S1) fun x6 S5 =>
    (wd_d (fn_Printer_putNumber x6 S5) fun S8 =>
    (wd_d (fn_Printer_put (40 : Int32) S8) fun S11 =>
    fn_Printer_showCall_26 slf wd_F p1 p2 (0 : Int32) S11)))
  else none))
set_option maxRecDepth 100000 in
theorem sn_Printer_showCall {L : Nat} {xs : Nat → Int32} {D : Nat} {slf : Nat → Int32 → Int32 → wd_S → Option wd_S} (hD : 4 ≤ D) (hs130 : ∀ {a b : Int32} {S : wd_S} {S' : wd_S}, slf 130 a b S = some S' → ev_r tb_P L xs D 130 [.ref 128, .int a, .int b] (wd_k S) (.inl none, wd_k S')) (hs133 : ∀ {a b : Int32} {S : wd_S} {S' : wd_S}, slf 133 a b S = some S' → ev_r tb_P L xs D 133 [.ref 128, .int a, .int b] (wd_k S) (.inl none, wd_k S')) (hs134 : ∀ {a b : Int32} {S : wd_S} {S' : wd_S}, slf 134 a b S = some S' → ev_r tb_P L xs D 134 [.ref 128, .int a, .int b] (wd_k S) (.inl none, wd_k S')) (hs135 : ∀ {a b : Int32} {S : wd_S} {S' : wd_S}, slf 135 a b S = some S' → ev_r tb_P L xs D 135 [.ref 128, .int a, .int b] (wd_k S) (.inl none, wd_k S')) (hs136 : ∀ {a b : Int32} {S : wd_S} {S' : wd_S}, slf 136 a b S = some S' → ev_r tb_P L xs D 136 [.ref 128, .int a, .int b] (wd_k S) (.inl none, wd_k S')) {p1 : Int32} {p2 : Int32} {S : wd_S} {S' : wd_S} (h : fn_Printer_showCall slf p1 p2 S = some S') : ev_r tb_P L xs (D + 1) 135 [.ref 128, .int p1, .int p2] (wd_k S) (.inl none, wd_k S') := by
  unfold fn_Printer_showCall at h
  refine ev_of (Nat.le_of_ble_eq_true rfl) ?_
  show go_r tb_P L xs D 135 0 [(0, .ref 128), (1, .int p1), (2, .int p2)] [] (wd_k S) (.inl none, wd_k S')
  refine bk_b (q := (3, [(0, .ref 128), (1, .int p1), (2, .int p2)], [.int (118 : Int32), .ref 128])) tb_c_135_0 mx_135 2 rfl ?_
  obtain ⟨S1, c3, h⟩ := wd_dx h
  refine bk_kv tb_c_135_0 rfl rfl rfl rfl rfl (ci := 3) rfl rfl (ev_up (Nat.le_trans (Nat.le_of_ble_eq_true rfl) hD) (sn_Printer_put c3)) ?_
  refine bk_b (q := (8, [(0, .ref 128), (1, .int p1), (2, .int p2)], [.ref 128, .ref 128])) tb_c_135_0 mx_135 2 rfl ?_
  refine bk_gm tb_c_135_0 rfl rfl (ci := 3) (k := 3) rfl rfl rfl ?_
  by_cases g4 : tp_t (S1.2.2.1 128 3) = (0, 8)
  · rw [if_pos g4] at h
    refine bk_b (q := (12, [(0, .ref 128), (1, .int p1), (2, .int p2)], [.int p1, .ref (S1.2.2.1 128 3), .ref 128])) tb_c_135_0 mx_135 1 rfl ?_
    obtain ⟨x6, S5, c7, h⟩ := wd_cx h
    refine bk_kv tb_c_135_0 rfl rfl rfl rfl rfl (ci := 8) g4 rfl (ev_up (Nat.le_trans (Nat.le_of_ble_eq_true rfl) hD) (sn_Trees_value g4 c7)) ?_
    obtain ⟨S8, c10, h⟩ := wd_dx h
    refine bk_kv tb_c_135_0 rfl rfl rfl rfl rfl (ci := 3) rfl rfl (ev_up (Nat.le_trans (Nat.le_of_ble_eq_true rfl) hD) (sn_Printer_putNumber c10)) ?_
    refine bk_b (q := (21, [(0, .ref 128), (1, .int p1), (2, .int p2)], [.int (40 : Int32), .ref 128])) tb_c_135_0 mx_135 2 rfl ?_
    obtain ⟨S11, c13, h⟩ := wd_dx h
    refine bk_kv tb_c_135_0 rfl rfl rfl rfl rfl (ci := 3) rfl rfl (ev_up (Nat.le_trans (Nat.le_of_ble_eq_true rfl) hD) (sn_Printer_put c13)) ?_
    refine bk_b (q := (26, [(3, .int (0 : Int32)), (0, .ref 128), (1, .int p1), (2, .int p2)], [])) tb_c_135_0 mx_135 2 rfl ?_
    exact go_lv (ls_sc rfl rfl (ls_sc rfl rfl (ls_sc rfl rfl (ls_sc rfl rfl ls_nil)))) (sn_Printer_showCall_26 hD hs130 hs133 hs134 hs135 hs136 wd_F h)
  · rw [if_neg g4] at h; cases h
theorem mx_137 : mi_mx tb_P 137 = 1 := rfl
/-- Specialiser$Printer.signText(I)Ljava/lang/String; -/
noncomputable def fn_Printer_signText (p0 : Int32) (S : wd_S) : Option (Nat × wd_S) :=
  (if p0 = (6 : Int32) then
    some (27, S)
  else
  (if p0 = (7 : Int32) then
    some (28, S)
  else
  (if p0 = (8 : Int32) then
    some (29, S)
  else
  (if p0 = (9 : Int32) then
    some (30, S)
  else
  some (31, S)))))
set_option maxRecDepth 100000 in
theorem sn_Printer_signText {L : Nat} {xs : Nat → Int32} {p0 : Int32} {S : wd_S} {x : Nat} {S' : wd_S} (h : fn_Printer_signText p0 S = some (x, S')) : ev_r tb_P L xs (0 + 1) 137 [.int p0] (wd_k S) (.inl (some (.retAddr x)), wd_k S') := by
  unfold fn_Printer_signText at h
  refine ev_of (Nat.le_of_ble_eq_true rfl) ?_
  show go_r tb_P L xs 0 137 0 [(0, .int p0)] [] (wd_k S) (.inl (some (.retAddr x)), wd_k S')
  refine bk_b (q := (1, [(0, .int p0)], [.int p0])) tb_c_137_0 mx_137 1 rfl ?_
  by_cases g1 : p0 = (6 : Int32)
  · rw [if_pos g1] at h
    refine bk_sw tb_c_137_0 rfl (pc' := 32) (by rw [g1]; rfl) ?_
    refine bk_ct tb_c_137_0 rfl rfl (x := 27) rfl ?_
    cases h
    exact bk_t tb_c_137_0 rfl rfl
  · rw [if_neg g1] at h
    by_cases g2 : p0 = (7 : Int32)
    · rw [if_pos g2] at h
      refine bk_sw tb_c_137_0 rfl (pc' := 35) (by rw [g2]; rfl) ?_
      refine bk_ct tb_c_137_0 rfl rfl (x := 28) rfl ?_
      cases h
      exact bk_t tb_c_137_0 rfl rfl
    · rw [if_neg g2] at h
      by_cases g3 : p0 = (8 : Int32)
      · rw [if_pos g3] at h
        refine bk_sw tb_c_137_0 rfl (pc' := 38) (by rw [g3]; rfl) ?_
        refine bk_ct tb_c_137_0 rfl rfl (x := 29) rfl ?_
        cases h
        exact bk_t tb_c_137_0 rfl rfl
      · rw [if_neg g3] at h
        by_cases g4 : p0 = (9 : Int32)
        · rw [if_pos g4] at h
          refine bk_sw tb_c_137_0 rfl (pc' := 41) (by rw [g4]; rfl) ?_
          refine bk_ct tb_c_137_0 rfl rfl (x := 30) rfl ?_
          cases h
          exact bk_t tb_c_137_0 rfl rfl
        · rw [if_neg g4] at h
          refine bk_sw tb_c_137_0 rfl (pc' := 44) (sw_t (t := 44) (fun i h1 h2 => ?_) rfl) ?_
          · have hi : i = 6 ∨ i = 7 ∨ i = 8 ∨ i = 9 := by omega
            rcases hi with rfl | rfl | rfl | rfl
            · exact g1
            · exact g2
            · exact g3
            · exact g4
          · refine bk_ct tb_c_137_0 rfl rfl (x := 31) rfl ?_
            cases h
            exact bk_t tb_c_137_0 rfl rfl
theorem mx_136 : mi_mx tb_P 136 = 3 := rfl
/-- Specialiser$Printer.showSign(II)V -/
noncomputable def fn_Printer_showSign (slf : Nat → Int32 → Int32 → wd_S → Option wd_S) (p1 : Int32) (p2 : Int32) (S : wd_S) : Option wd_S :=
  (wd_d (fn_Printer_put (40 : Int32) S) fun S1 =>
  (if tp_t (S1.2.2.1 128 3) = (0, 8) then
    (wd_c (fn_Trees_part (S1.2.2.1 128 3) p1 (0 : Int32) S1) fun x6 S5 =>
    (wd_d (slf 130 x6 (p2 + (1 : Int32)) S5) fun S8 =>
    (if tp_t (S8.2.2.1 128 3) = (0, 8) then
      (wd_c (fn_Trees_kind (S8.2.2.1 128 3) p1 S8) fun x13 S12 =>
      (wd_c (fn_Printer_signText x13 S12) fun x16 S15 =>
      (wd_d (fn_Printer_putText x16 S15) fun S18 =>
      (if tp_t (S18.2.2.1 128 3) = (0, 8) then
        (wd_c (fn_Trees_part (S18.2.2.1 128 3) p1 (1 : Int32) S18) fun x23 S22 =>
        (wd_d (slf 130 x23 (p2 + (1 : Int32)) S22) fun S25 =>
        (wd_d (fn_Printer_put (41 : Int32) S25) fun S28 =>
        some S28)))
      else none))))
    else none)))
  else none))
set_option maxRecDepth 100000 in
theorem sn_Printer_showSign {L : Nat} {xs : Nat → Int32} {D : Nat} {slf : Nat → Int32 → Int32 → wd_S → Option wd_S} (hD : 4 ≤ D) (hs130 : ∀ {a b : Int32} {S : wd_S} {S' : wd_S}, slf 130 a b S = some S' → ev_r tb_P L xs D 130 [.ref 128, .int a, .int b] (wd_k S) (.inl none, wd_k S')) (hs133 : ∀ {a b : Int32} {S : wd_S} {S' : wd_S}, slf 133 a b S = some S' → ev_r tb_P L xs D 133 [.ref 128, .int a, .int b] (wd_k S) (.inl none, wd_k S')) (hs134 : ∀ {a b : Int32} {S : wd_S} {S' : wd_S}, slf 134 a b S = some S' → ev_r tb_P L xs D 134 [.ref 128, .int a, .int b] (wd_k S) (.inl none, wd_k S')) (hs135 : ∀ {a b : Int32} {S : wd_S} {S' : wd_S}, slf 135 a b S = some S' → ev_r tb_P L xs D 135 [.ref 128, .int a, .int b] (wd_k S) (.inl none, wd_k S')) (hs136 : ∀ {a b : Int32} {S : wd_S} {S' : wd_S}, slf 136 a b S = some S' → ev_r tb_P L xs D 136 [.ref 128, .int a, .int b] (wd_k S) (.inl none, wd_k S')) {p1 : Int32} {p2 : Int32} {S : wd_S} {S' : wd_S} (h : fn_Printer_showSign slf p1 p2 S = some S') : ev_r tb_P L xs (D + 1) 136 [.ref 128, .int p1, .int p2] (wd_k S) (.inl none, wd_k S') := by
  unfold fn_Printer_showSign at h
  refine ev_of (Nat.le_of_ble_eq_true rfl) ?_
  show go_r tb_P L xs D 136 0 [(0, .ref 128), (1, .int p1), (2, .int p2)] [] (wd_k S) (.inl none, wd_k S')
  refine bk_b (q := (3, [(0, .ref 128), (1, .int p1), (2, .int p2)], [.int (40 : Int32), .ref 128])) tb_c_136_0 mx_136 2 rfl ?_
  obtain ⟨S1, c3, h⟩ := wd_dx h
  refine bk_kv tb_c_136_0 rfl rfl rfl rfl rfl (ci := 3) rfl rfl (ev_up (Nat.le_trans (Nat.le_of_ble_eq_true rfl) hD) (sn_Printer_put c3)) ?_
  refine bk_b (q := (8, [(0, .ref 128), (1, .int p1), (2, .int p2)], [.ref 128, .ref 128])) tb_c_136_0 mx_136 2 rfl ?_
  refine bk_gm tb_c_136_0 rfl rfl (ci := 3) (k := 3) rfl rfl rfl ?_
  by_cases g4 : tp_t (S1.2.2.1 128 3) = (0, 8)
  · rw [if_pos g4] at h
    refine bk_b (q := (13, [(0, .ref 128), (1, .int p1), (2, .int p2)], [.int (0 : Int32), .int p1, .ref (S1.2.2.1 128 3), .ref 128])) tb_c_136_0 mx_136 2 rfl ?_
    obtain ⟨x6, S5, c7, h⟩ := wd_cx h
    refine bk_kv tb_c_136_0 rfl rfl rfl rfl rfl (ci := 8) g4 rfl (ev_up (Nat.le_trans (Nat.le_of_ble_eq_true rfl) hD) (sn_Trees_part g4 c7)) ?_
    refine bk_b (q := (19, [(0, .ref 128), (1, .int p1), (2, .int p2)], [.int (p2 + (1 : Int32)), .int x6, .ref 128])) tb_c_136_0 mx_136 3 rfl ?_
    obtain ⟨S8, c10, h⟩ := wd_dx h
    refine bk_kv tb_c_136_0 rfl rfl rfl rfl rfl (ci := 3) rfl rfl (hs130 c10) ?_
    refine bk_b (q := (24, [(0, .ref 128), (1, .int p1), (2, .int p2)], [.ref 128, .ref 128])) tb_c_136_0 mx_136 2 rfl ?_
    refine bk_gm tb_c_136_0 rfl rfl (ci := 3) (k := 3) rfl rfl rfl ?_
    by_cases g11 : tp_t (S8.2.2.1 128 3) = (0, 8)
    · rw [if_pos g11] at h
      refine bk_b (q := (28, [(0, .ref 128), (1, .int p1), (2, .int p2)], [.int p1, .ref (S8.2.2.1 128 3), .ref 128])) tb_c_136_0 mx_136 1 rfl ?_
      obtain ⟨x13, S12, c14, h⟩ := wd_cx h
      refine bk_kv tb_c_136_0 rfl rfl rfl rfl rfl (ci := 8) g11 rfl (ev_up (Nat.le_trans (Nat.le_of_ble_eq_true rfl) hD) (sn_Trees_kind g11 c14)) ?_
      obtain ⟨x16, S15, c17, h⟩ := wd_cx h
      refine bk_ks tb_c_136_0 rfl rfl rfl (by decide) rfl rfl (ev_up (Nat.le_trans (Nat.le_of_ble_eq_true rfl) hD) (sn_Printer_signText c17)) ?_
      obtain ⟨S18, c20, h⟩ := wd_dx h
      refine bk_kv tb_c_136_0 rfl rfl rfl rfl rfl (ci := 3) rfl rfl (ev_up (Nat.le_trans (Nat.le_of_ble_eq_true rfl) hD) (sn_Printer_putText c20)) ?_
      refine bk_b (q := (39, [(0, .ref 128), (1, .int p1), (2, .int p2)], [.ref 128, .ref 128])) tb_c_136_0 mx_136 2 rfl ?_
      refine bk_gm tb_c_136_0 rfl rfl (ci := 3) (k := 3) rfl rfl rfl ?_
      by_cases g21 : tp_t (S18.2.2.1 128 3) = (0, 8)
      · rw [if_pos g21] at h
        refine bk_b (q := (44, [(0, .ref 128), (1, .int p1), (2, .int p2)], [.int (1 : Int32), .int p1, .ref (S18.2.2.1 128 3), .ref 128])) tb_c_136_0 mx_136 2 rfl ?_
        obtain ⟨x23, S22, c24, h⟩ := wd_cx h
        refine bk_kv tb_c_136_0 rfl rfl rfl rfl rfl (ci := 8) g21 rfl (ev_up (Nat.le_trans (Nat.le_of_ble_eq_true rfl) hD) (sn_Trees_part g21 c24)) ?_
        refine bk_b (q := (50, [(0, .ref 128), (1, .int p1), (2, .int p2)], [.int (p2 + (1 : Int32)), .int x23, .ref 128])) tb_c_136_0 mx_136 3 rfl ?_
        obtain ⟨S25, c27, h⟩ := wd_dx h
        refine bk_kv tb_c_136_0 rfl rfl rfl rfl rfl (ci := 3) rfl rfl (hs130 c27) ?_
        refine bk_b (q := (56, [(0, .ref 128), (1, .int p1), (2, .int p2)], [.int (41 : Int32), .ref 128])) tb_c_136_0 mx_136 2 rfl ?_
        obtain ⟨S28, c30, h⟩ := wd_dx h
        refine bk_kv tb_c_136_0 rfl rfl rfl rfl rfl (ci := 3) rfl rfl (ev_up (Nat.le_trans (Nat.le_of_ble_eq_true rfl) hD) (sn_Printer_put c30)) ?_
        cases h
        exact bk_t tb_c_136_0 rfl rfl
      · rw [if_neg g21] at h; cases h
    · rw [if_neg g11] at h; cases h
  · rw [if_neg g4] at h; cases h
theorem mx_130 : mi_mx tb_P 130 = 3 := rfl
noncomputable def fn_Printer_show_111 (slf : Nat → Int32 → Int32 → wd_S → Option wd_S) (S : wd_S) : Option wd_S :=
  some S
set_option maxRecDepth 100000 in
theorem sn_Printer_show_111 {L : Nat} {xs : Nat → Int32} {D : Nat} {slf : Nat → Int32 → Int32 → wd_S → Option wd_S} (hD : 4 ≤ D) (hs130 : ∀ {a b : Int32} {S : wd_S} {S' : wd_S}, slf 130 a b S = some S' → ev_r tb_P L xs D 130 [.ref 128, .int a, .int b] (wd_k S) (.inl none, wd_k S')) (hs133 : ∀ {a b : Int32} {S : wd_S} {S' : wd_S}, slf 133 a b S = some S' → ev_r tb_P L xs D 133 [.ref 128, .int a, .int b] (wd_k S) (.inl none, wd_k S')) (hs134 : ∀ {a b : Int32} {S : wd_S} {S' : wd_S}, slf 134 a b S = some S' → ev_r tb_P L xs D 134 [.ref 128, .int a, .int b] (wd_k S) (.inl none, wd_k S')) (hs135 : ∀ {a b : Int32} {S : wd_S} {S' : wd_S}, slf 135 a b S = some S' → ev_r tb_P L xs D 135 [.ref 128, .int a, .int b] (wd_k S) (.inl none, wd_k S')) (hs136 : ∀ {a b : Int32} {S : wd_S} {S' : wd_S}, slf 136 a b S = some S' → ev_r tb_P L xs D 136 [.ref 128, .int a, .int b] (wd_k S) (.inl none, wd_k S')) {S : wd_S} {S' : wd_S} (h : fn_Printer_show_111 slf  S = some S') : go_r tb_P L xs D 130 111 [] [] (wd_k S) (.inl none, wd_k S') := by
  unfold fn_Printer_show_111 at h
  cases h
  exact bk_t tb_c_130_1 rfl rfl
/-- Specialiser$Printer.show(II)V -/
noncomputable def fn_Printer_show (slf : Nat → Int32 → Int32 → wd_S → Option wd_S) (p1 : Int32) (p2 : Int32) (S : wd_S) : Option wd_S :=
  (if p2 < (96 : Int32) then
    (if tp_t (S.2.2.1 128 3) = (0, 8) then
      (wd_c (fn_Trees_kind (S.2.2.1 128 3) p1 S) fun x4 S3 =>
      (if x4 = (1 : Int32) then
        (if tp_t (S3.2.2.1 128 3) = (0, 8) then
          (wd_c (fn_Trees_value (S3.2.2.1 128 3) p1 S3) fun x9 S8 =>
          (wd_d (fn_Printer_showNumber x9 S8) fun S11 =>
          fn_Printer_show_111 slf  S11))
        else none)
      else
      (if x4 = (2 : Int32) then
        (if tp_t (S3.2.2.1 128 3) = (0, 8) then
          (wd_c (fn_Trees_value (S3.2.2.1 128 3) p1 S3) fun x17 S16 =>
          (wd_d (fn_Printer_showName x17 S16) fun S19 =>
          fn_Printer_show_111 slf  S19))
        else none)
      else
      (if x4 = (3 : Int32) then
        (wd_d (slf 133 p1 p2 S3) fun S23 =>
        fn_Printer_show_111 slf  S23)
      else
      (if x4 = (4 : Int32) then
        (wd_d (slf 134 p1 p2 S3) fun S27 =>
        fn_Printer_show_111 slf  S27)
      else
      (if x4 = (5 : Int32) then
        (wd_d (slf 135 p1 p2 S3) fun S31 =>
        fn_Printer_show_111 slf  S31)
      else
      (wd_d (slf 136 p1 p2 S3) fun S34 =>
      fn_Printer_show_111 slf  S34)))))))
    else none)
  else
    some S)
set_option maxRecDepth 100000 in
theorem sn_Printer_show {L : Nat} {xs : Nat → Int32} {D : Nat} {slf : Nat → Int32 → Int32 → wd_S → Option wd_S} (hD : 4 ≤ D) (hs130 : ∀ {a b : Int32} {S : wd_S} {S' : wd_S}, slf 130 a b S = some S' → ev_r tb_P L xs D 130 [.ref 128, .int a, .int b] (wd_k S) (.inl none, wd_k S')) (hs133 : ∀ {a b : Int32} {S : wd_S} {S' : wd_S}, slf 133 a b S = some S' → ev_r tb_P L xs D 133 [.ref 128, .int a, .int b] (wd_k S) (.inl none, wd_k S')) (hs134 : ∀ {a b : Int32} {S : wd_S} {S' : wd_S}, slf 134 a b S = some S' → ev_r tb_P L xs D 134 [.ref 128, .int a, .int b] (wd_k S) (.inl none, wd_k S')) (hs135 : ∀ {a b : Int32} {S : wd_S} {S' : wd_S}, slf 135 a b S = some S' → ev_r tb_P L xs D 135 [.ref 128, .int a, .int b] (wd_k S) (.inl none, wd_k S')) (hs136 : ∀ {a b : Int32} {S : wd_S} {S' : wd_S}, slf 136 a b S = some S' → ev_r tb_P L xs D 136 [.ref 128, .int a, .int b] (wd_k S) (.inl none, wd_k S')) {p1 : Int32} {p2 : Int32} {S : wd_S} {S' : wd_S} (h : fn_Printer_show slf p1 p2 S = some S') : ev_r tb_P L xs (D + 1) 130 [.ref 128, .int p1, .int p2] (wd_k S) (.inl none, wd_k S') := by
  unfold fn_Printer_show at h
  refine ev_of (Nat.le_of_ble_eq_true rfl) ?_
  show go_r tb_P L xs D 130 0 [(0, .ref 128), (1, .int p1), (2, .int p2)] [] (wd_k S) (.inl none, wd_k S')
  refine bk_b (q := (3, [(0, .ref 128), (1, .int p1), (2, .int p2)], [.int (96 : Int32), .int p2])) tb_c_130_0 mx_130 2 rfl ?_
  by_cases g1 : p2 < (96 : Int32)
  · rw [if_pos g1] at h
    refine bk_jt tb_c_130_0 rfl (pc' := 7) rfl (cm_lt_t g1) ?_
    refine bk_b (q := (8, [(0, .ref 128), (1, .int p1), (2, .int p2)], [.ref 128])) tb_c_130_0 mx_130 1 rfl ?_
    refine bk_gm tb_c_130_0 rfl rfl (ci := 3) (k := 3) rfl rfl rfl ?_
    by_cases g2 : tp_t (S.2.2.1 128 3) = (0, 8)
    · rw [if_pos g2] at h
      refine bk_b (q := (12, [(0, .ref 128), (1, .int p1), (2, .int p2)], [.int p1, .ref (S.2.2.1 128 3)])) tb_c_130_0 mx_130 1 rfl ?_
      obtain ⟨x4, S3, c5, h⟩ := wd_cx h
      refine bk_kv tb_c_130_0 rfl rfl rfl rfl rfl (ci := 8) g2 rfl (ev_up (Nat.le_trans (Nat.le_of_ble_eq_true rfl) hD) (sn_Trees_kind g2 c5)) ?_
      by_cases g6 : x4 = (1 : Int32)
      · rw [if_pos g6] at h
        refine bk_sw tb_c_130_0 rfl (pc' := 48) (by rw [g6]; rfl) ?_
        refine bk_b (q := (50, [(0, .ref 128), (1, .int p1), (2, .int p2)], [.ref 128, .ref 128])) tb_c_130_0 mx_130 2 rfl ?_
        refine bk_gm tb_c_130_0 rfl rfl (ci := 3) (k := 3) rfl rfl rfl ?_
        by_cases g7 : tp_t (S3.2.2.1 128 3) = (0, 8)
        · rw [if_pos g7] at h
          refine bk_b (q := (54, [(0, .ref 128), (1, .int p1), (2, .int p2)], [.int p1, .ref (S3.2.2.1 128 3), .ref 128])) tb_c_130_0 mx_130 1 rfl ?_
          obtain ⟨x9, S8, c10, h⟩ := wd_cx h
          refine bk_kv tb_c_130_0 rfl rfl rfl rfl rfl (ci := 8) g7 rfl (ev_up (Nat.le_trans (Nat.le_of_ble_eq_true rfl) hD) (sn_Trees_value g7 c10)) ?_
          obtain ⟨S11, c13, h⟩ := wd_dx h
          refine bk_kv tb_c_130_0 rfl rfl rfl rfl rfl (ci := 3) rfl rfl (ev_up (Nat.le_trans (Nat.le_of_ble_eq_true rfl) hD) (sn_Printer_showNumber c13)) ?_
          refine bk_b (q := (111, [(0, .ref 128), (1, .int p1), (2, .int p2)], [])) tb_c_130_0 mx_130 1 rfl ?_
          exact go_lv ls_nil (sn_Printer_show_111 hD hs130 hs133 hs134 hs135 hs136 h)
        · rw [if_neg g7] at h; cases h
      · rw [if_neg g6] at h
        by_cases g14 : x4 = (2 : Int32)
        · rw [if_pos g14] at h
          refine bk_sw tb_c_130_0 rfl (pc' := 63) (by rw [g14]; rfl) ?_
          refine bk_b (q := (65, [(0, .ref 128), (1, .int p1), (2, .int p2)], [.ref 128, .ref 128])) tb_c_130_0 mx_130 2 rfl ?_
          refine bk_gm tb_c_130_0 rfl rfl (ci := 3) (k := 3) rfl rfl rfl ?_
          by_cases g15 : tp_t (S3.2.2.1 128 3) = (0, 8)
          · rw [if_pos g15] at h
            refine bk_b (q := (69, [(0, .ref 128), (1, .int p1), (2, .int p2)], [.int p1, .ref (S3.2.2.1 128 3), .ref 128])) tb_c_130_0 mx_130 1 rfl ?_
            obtain ⟨x17, S16, c18, h⟩ := wd_cx h
            refine bk_kv tb_c_130_0 rfl rfl rfl rfl rfl (ci := 8) g15 rfl (ev_up (Nat.le_trans (Nat.le_of_ble_eq_true rfl) hD) (sn_Trees_value g15 c18)) ?_
            obtain ⟨S19, c21, h⟩ := wd_dx h
            refine bk_kv tb_c_130_0 rfl rfl rfl rfl rfl (ci := 3) rfl rfl (ev_up (Nat.le_trans (Nat.le_of_ble_eq_true rfl) hD) (sn_Printer_showName c21)) ?_
            refine bk_b (q := (111, [(0, .ref 128), (1, .int p1), (2, .int p2)], [])) tb_c_130_0 mx_130 1 rfl ?_
            exact go_lv ls_nil (sn_Printer_show_111 hD hs130 hs133 hs134 hs135 hs136 h)
          · rw [if_neg g15] at h; cases h
        · rw [if_neg g14] at h
          by_cases g22 : x4 = (3 : Int32)
          · rw [if_pos g22] at h
            refine bk_sw tb_c_130_0 rfl (pc' := 78) (by rw [g22]; rfl) ?_
            refine bk_b (q := (81, [(0, .ref 128), (1, .int p1), (2, .int p2)], [.int p2, .int p1, .ref 128])) tb_c_130_0 mx_130 3 rfl ?_
            obtain ⟨S23, c25, h⟩ := wd_dx h
            refine bk_kv tb_c_130_0 rfl rfl rfl rfl rfl (ci := 3) rfl rfl (hs133 c25) ?_
            refine bk_b (q := (111, [(0, .ref 128), (1, .int p1), (2, .int p2)], [])) tb_c_130_0 mx_130 1 rfl ?_
            exact go_lv ls_nil (sn_Printer_show_111 hD hs130 hs133 hs134 hs135 hs136 h)
          · rw [if_neg g22] at h
            by_cases g26 : x4 = (4 : Int32)
            · rw [if_pos g26] at h
              refine bk_sw tb_c_130_0 rfl (pc' := 87) (by rw [g26]; rfl) ?_
              refine bk_b (q := (90, [(0, .ref 128), (1, .int p1), (2, .int p2)], [.int p2, .int p1, .ref 128])) tb_c_130_0 mx_130 3 rfl ?_
              obtain ⟨S27, c29, h⟩ := wd_dx h
              refine bk_kv tb_c_130_0 rfl rfl rfl rfl rfl (ci := 3) rfl rfl (hs134 c29) ?_
              refine bk_b (q := (111, [(0, .ref 128), (1, .int p1), (2, .int p2)], [])) tb_c_130_0 mx_130 1 rfl ?_
              exact go_lv ls_nil (sn_Printer_show_111 hD hs130 hs133 hs134 hs135 hs136 h)
            · rw [if_neg g26] at h
              by_cases g30 : x4 = (5 : Int32)
              · rw [if_pos g30] at h
                refine bk_sw tb_c_130_0 rfl (pc' := 96) (by rw [g30]; rfl) ?_
                refine bk_b (q := (99, [(0, .ref 128), (1, .int p1), (2, .int p2)], [.int p2, .int p1, .ref 128])) tb_c_130_0 mx_130 3 rfl ?_
                obtain ⟨S31, c33, h⟩ := wd_dx h
                refine bk_kv tb_c_130_0 rfl rfl rfl rfl rfl (ci := 3) rfl rfl (hs135 c33) ?_
                refine bk_b (q := (111, [(0, .ref 128), (1, .int p1), (2, .int p2)], [])) tb_c_130_0 mx_130 1 rfl ?_
                exact go_lv ls_nil (sn_Printer_show_111 hD hs130 hs133 hs134 hs135 hs136 h)
              · rw [if_neg g30] at h
                refine bk_sw tb_c_130_0 rfl (pc' := 105) (sw_t (t := 105) (fun i h1 h2 => ?_) rfl) ?_
                · have hi : i = 1 ∨ i = 2 ∨ i = 3 ∨ i = 4 ∨ i = 5 := by omega
                  rcases hi with rfl | rfl | rfl | rfl | rfl
                  · exact g6
                  · exact g14
                  · exact g22
                  · exact g26
                  · exact g30
                · refine bk_b (q := (107, [(0, .ref 128), (1, .int p1), (2, .int p2)], [.int p1, .ref 128])) tb_c_130_0 mx_130 2 rfl ?_
                  refine bk_b (q := (108, [(0, .ref 128), (1, .int p1), (2, .int p2)], [.int p2, .int p1, .ref 128])) tb_c_130_1 mx_130 1 rfl ?_
                  obtain ⟨S34, c36, h⟩ := wd_dx h
                  refine bk_kv tb_c_130_1 rfl rfl rfl rfl rfl (ci := 3) rfl rfl (hs136 c36) ?_
                  exact go_lv ls_nil (sn_Printer_show_111 hD hs130 hs133 hs134 hs135 hs136 h)
    · rw [if_neg g2] at h; cases h
  · rw [if_neg g1] at h
    refine bk_jf tb_c_130_0 rfl (pc' := 6) rfl (t := 7) rfl (cm_lt_f g1) ?_
    cases h
    exact bk_t tb_c_130_0 rfl rfl
noncomputable def rc_Printer_show : Nat → Nat → Int32 → Int32 → wd_S → Option wd_S
  | 0, _, _, _, _ => none
  | n + 1, t, a, b, S => if t = 130 then fn_Printer_show (rc_Printer_show n) a b S else if t = 133 then fn_Printer_showLet (rc_Printer_show n) a b S else if t = 134 then fn_Printer_showIf (rc_Printer_show n) a b S else if t = 135 then fn_Printer_showCall (rc_Printer_show n) a b S else if t = 136 then fn_Printer_showSign (rc_Printer_show n) a b S else none
theorem rc_Printer_show_ok {L : Nat} {xs : Nat → Int32} : ∀ n : Nat, (∀ {a b : Int32} {S : wd_S} {S' : wd_S}, rc_Printer_show n 130 a b S = some S' → ev_r tb_P L xs (n + 4) 130 [.ref 128, .int a, .int b] (wd_k S) (.inl none, wd_k S')) ∧ (∀ {a b : Int32} {S : wd_S} {S' : wd_S}, rc_Printer_show n 133 a b S = some S' → ev_r tb_P L xs (n + 4) 133 [.ref 128, .int a, .int b] (wd_k S) (.inl none, wd_k S')) ∧ (∀ {a b : Int32} {S : wd_S} {S' : wd_S}, rc_Printer_show n 134 a b S = some S' → ev_r tb_P L xs (n + 4) 134 [.ref 128, .int a, .int b] (wd_k S) (.inl none, wd_k S')) ∧ (∀ {a b : Int32} {S : wd_S} {S' : wd_S}, rc_Printer_show n 135 a b S = some S' → ev_r tb_P L xs (n + 4) 135 [.ref 128, .int a, .int b] (wd_k S) (.inl none, wd_k S')) ∧ (∀ {a b : Int32} {S : wd_S} {S' : wd_S}, rc_Printer_show n 136 a b S = some S' → ev_r tb_P L xs (n + 4) 136 [.ref 128, .int a, .int b] (wd_k S) (.inl none, wd_k S')) := by
  intro n
  induction n with
  | zero => exact ⟨(fun h => by cases h), (fun h => by cases h), (fun h => by cases h), (fun h => by cases h), (fun h => by cases h)⟩
  | succ n ih =>
    obtain ⟨i130, i133, i134, i135, i136⟩ := ih
    refine ⟨?_, ?_, ?_, ?_, ?_⟩
    · intro a b S S' h
      have h : fn_Printer_show (rc_Printer_show n) a b S = some S' := h
      rw [show n + 1 + 4 = n + 4 + 1 by omega]
      exact sn_Printer_show (Nat.le_add_left _ _) i130 i133 i134 i135 i136 h
    · intro a b S S' h
      have h : fn_Printer_showLet (rc_Printer_show n) a b S = some S' := h
      rw [show n + 1 + 4 = n + 4 + 1 by omega]
      exact sn_Printer_showLet (Nat.le_add_left _ _) i130 i133 i134 i135 i136 h
    · intro a b S S' h
      have h : fn_Printer_showIf (rc_Printer_show n) a b S = some S' := h
      rw [show n + 1 + 4 = n + 4 + 1 by omega]
      exact sn_Printer_showIf (Nat.le_add_left _ _) i130 i133 i134 i135 i136 h
    · intro a b S S' h
      have h : fn_Printer_showCall (rc_Printer_show n) a b S = some S' := h
      rw [show n + 1 + 4 = n + 4 + 1 by omega]
      exact sn_Printer_showCall (Nat.le_add_left _ _) i130 i133 i134 i135 i136 h
    · intro a b S S' h
      have h : fn_Printer_showSign (rc_Printer_show n) a b S = some S' := h
      rw [show n + 1 + 4 = n + 4 + 1 by omega]
      exact sn_Printer_showSign (Nat.le_add_left _ _) i130 i133 i134 i135 i136 h
theorem rc_Printer_show_130 {L : Nat} {xs : Nat → Int32} (n : Nat) : ∀ {a b : Int32} {S : wd_S} {S' : wd_S}, rc_Printer_show n 130 a b S = some S' → ev_r tb_P L xs (n + 4) 130 [.ref 128, .int a, .int b] (wd_k S) (.inl none, wd_k S') := (rc_Printer_show_ok n).1
theorem rc_Printer_show_133 {L : Nat} {xs : Nat → Int32} (n : Nat) : ∀ {a b : Int32} {S : wd_S} {S' : wd_S}, rc_Printer_show n 133 a b S = some S' → ev_r tb_P L xs (n + 4) 133 [.ref 128, .int a, .int b] (wd_k S) (.inl none, wd_k S') := (rc_Printer_show_ok n).2.1
theorem rc_Printer_show_134 {L : Nat} {xs : Nat → Int32} (n : Nat) : ∀ {a b : Int32} {S : wd_S} {S' : wd_S}, rc_Printer_show n 134 a b S = some S' → ev_r tb_P L xs (n + 4) 134 [.ref 128, .int a, .int b] (wd_k S) (.inl none, wd_k S') := (rc_Printer_show_ok n).2.2.1
theorem rc_Printer_show_135 {L : Nat} {xs : Nat → Int32} (n : Nat) : ∀ {a b : Int32} {S : wd_S} {S' : wd_S}, rc_Printer_show n 135 a b S = some S' → ev_r tb_P L xs (n + 4) 135 [.ref 128, .int a, .int b] (wd_k S) (.inl none, wd_k S') := (rc_Printer_show_ok n).2.2.2.1
theorem rc_Printer_show_136 {L : Nat} {xs : Nat → Int32} (n : Nat) : ∀ {a b : Int32} {S : wd_S} {S' : wd_S}, rc_Printer_show n 136 a b S = some S' → ev_r tb_P L xs (n + 4) 136 [.ref 128, .int a, .int b] (wd_k S) (.inl none, wd_k S') := (rc_Printer_show_ok n).2.2.2.2
theorem mx_126 : mi_mx tb_P 126 = 3 := rfl
noncomputable def fn_Printer_showVersion_59 (kk39 : Int32 → Int32 → wd_S → Option wd_S) (l1 : Int32) (l2 : Int32) (s1 : Nat) (S : wd_S) : Option wd_S :=
  (wd_d (fn_Printer_putText s1 S) fun S39 =>
  (wd_d (fn_Printer_put ((97 : Int32) + l2) S39) fun S42 =>
  kk39 l1 (l2 + (1 : Int32)) S42))
set_option maxRecDepth 100000 in
theorem sn_Printer_showVersion_59 {L : Nat} {xs : Nat → Int32} {kk39 : Int32 → Int32 → wd_S → Option wd_S} (hk39 : ∀ {l1 : Int32} {l2 : Int32} {S : wd_S} {S' : wd_S}, kk39 l1 l2 S = some S' → go_r tb_P L xs 204 126 39 [(0, .ref 128), (1, .int l1), (2, .int l2)] [] (wd_k S) (.inl none, wd_k S')) {l1 : Int32} {l2 : Int32} {s1 : Nat} {S : wd_S} {S' : wd_S} (h : fn_Printer_showVersion_59 kk39 l1 l2 s1 S = some S') : go_r tb_P L xs 204 126 59 [(0, .ref 128), (1, .int l1), (2, .int l2)] [.retAddr s1, .ref 128] (wd_k S) (.inl none, wd_k S') := by
  unfold fn_Printer_showVersion_59 at h
  obtain ⟨S39, c41, h⟩ := wd_dx h
  refine bk_kv tb_c_126_0 rfl rfl rfl rfl rfl (ci := 3) rfl rfl (ev_up (Nat.le_of_ble_eq_true rfl) (sn_Printer_putText c41)) ?_
  refine bk_b (q := (67, [(0, .ref 128), (1, .int l1), (2, .int l2)], [.int ((97 : Int32) + l2), .ref 128])) tb_c_126_0 mx_126 4 rfl ?_
  obtain ⟨S42, c44, h⟩ := wd_dx h
  refine bk_kv tb_c_126_0 rfl rfl rfl rfl rfl (ci := 3) rfl rfl (ev_up (Nat.le_of_ble_eq_true rfl) (sn_Printer_put c44)) ?_
  refine bk_b (q := (39, [(2, .int (l2 + (1 : Int32))), (0, .ref 128), (1, .int l1)], [])) tb_c_126_0 mx_126 2 rfl ?_
  exact go_lv (ls_sc rfl rfl (ls_sc rfl rfl (ls_sc rfl rfl ls_nil))) (hk39 h)
noncomputable def fn_Printer_showVersion_39 : Nat → Int32 → Int32 → wd_S → Option wd_S
  | 0, _, _, _ => none
  | n + 1, l1, l2, S =>
    (if l2 < (S.1 128 6) then
      (if l2 = 0 then
        fn_Printer_showVersion_59 (fn_Printer_showVersion_39 n) l1 l2 16 S
      else
        fn_Printer_showVersion_59 (fn_Printer_showVersion_39 n) l1 l2 17 S)
    else
      (wd_d (fn_Printer_putText 18 S) fun S21 =>
      (if tp_t (S21.2.2.1 128 2) = (0, 9) then
        (wd_c (fn_Versions_bodies (S21.2.2.1 128 2) S21) fun x26 S25 => if tp_t x26 = (0, 0) then
          (wd_c (fn_Bodies_root x26 l1 S25) fun x30 S29 =>
          (wd_d (rc_Printer_show 200 130 x30 (0 : Int32) S29) fun S32 =>
          (wd_d (fn_Printer_putText 19 S32) fun S35 =>
          some S35)))
        else none)
      else none)))
set_option maxRecDepth 100000 in
theorem sn_Printer_showVersion_39 {L : Nat} {xs : Nat → Int32} : ∀ (n : Nat) {l1 : Int32} {l2 : Int32} {S : wd_S} {S' : wd_S}, fn_Printer_showVersion_39 n l1 l2 S = some S' → go_r tb_P L xs 204 126 39 [(0, .ref 128), (1, .int l1), (2, .int l2)] [] (wd_k S) (.inl none, wd_k S') := by
  intro n
  induction n with
  | zero => intro l1 l2 S S'  h; cases h
  | succ n ih =>
    intro l1 l2 S S'  h
    rw [fn_Printer_showVersion_39] at h
    refine bk_b (q := (41, [(0, .ref 128), (1, .int l1), (2, .int l2)], [.ref 128, .int l2])) tb_c_126_0 mx_126 2 rfl ?_
    refine bk_gi tb_c_126_0 rfl rfl (ci := 3) (k := 6) rfl rfl rfl ?_
    by_cases g20 : l2 < (S.1 128 6)
    · rw [if_pos g20] at h
      refine bk_jf tb_c_126_0 rfl (pc' := 47) rfl (t := 76) rfl (cm_ge_f g20) ?_
      refine bk_b (q := (49, [(0, .ref 128), (1, .int l1), (2, .int l2)], [.int l2, .ref 128])) tb_c_126_0 mx_126 2 rfl ?_
      by_cases g38 : l2 = 0
      · rw [if_pos g38] at h
        refine bk_zf tb_c_126_0 rfl (pc' := 52) rfl (t := 57) rfl (cm_ne_f g38) ?_
        refine bk_ct tb_c_126_0 rfl rfl (x := 16) rfl ?_
        refine bk_b (q := (59, [(0, .ref 128), (1, .int l1), (2, .int l2)], [.retAddr 16, .ref 128])) tb_c_126_0 mx_126 1 rfl ?_
        exact go_lv (ls_sc rfl rfl (ls_sc rfl rfl (ls_sc rfl rfl ls_nil))) (sn_Printer_showVersion_59 ih h)
      · rw [if_neg g38] at h
        refine bk_zt tb_c_126_0 rfl (pc' := 57) rfl (cm_ne_t g38) ?_
        refine bk_ct tb_c_126_0 rfl rfl (x := 17) rfl ?_
        exact go_lv (ls_sc rfl rfl (ls_sc rfl rfl (ls_sc rfl rfl ls_nil))) (sn_Printer_showVersion_59 ih h)
    · rw [if_neg g20] at h
      refine bk_jt tb_c_126_0 rfl (pc' := 76) rfl (cm_ge_t g20) ?_
      refine bk_b (q := (77, [(0, .ref 128), (1, .int l1), (2, .int l2)], [.ref 128])) tb_c_126_0 mx_126 1 rfl ?_
      refine bk_ct tb_c_126_1 rfl rfl (x := 18) rfl ?_
      obtain ⟨S21, c23, h⟩ := wd_dx h
      refine bk_kv tb_c_126_1 rfl rfl rfl rfl rfl (ci := 3) rfl rfl (ev_up (Nat.le_of_ble_eq_true rfl) (sn_Printer_putText c23)) ?_
      refine bk_b (q := (84, [(0, .ref 128), (1, .int l1), (2, .int l2)], [.ref 128, .ref 128])) tb_c_126_1 mx_126 2 rfl ?_
      refine bk_gm tb_c_126_1 rfl rfl (ci := 3) (k := 2) rfl rfl rfl ?_
      by_cases g24 : tp_t (S21.2.2.1 128 2) = (0, 9)
      · rw [if_pos g24] at h
        obtain ⟨x26, S25, c27, h⟩ := wd_cx h
        by_cases g28 : tp_t x26 = (0, 0)
        · rw [if_pos g28] at h
          refine bk_kv tb_c_126_1 rfl rfl rfl rfl rfl (ci := 9) g24 rfl (ev_up (Nat.le_of_ble_eq_true rfl) (sn_Versions_bodies g24 c27)) ?_
          refine bk_b (q := (91, [(0, .ref 128), (1, .int l1), (2, .int l2)], [.int l1, .ref x26, .ref 128])) tb_c_126_1 mx_126 1 rfl ?_
          obtain ⟨x30, S29, c31, h⟩ := wd_cx h
          refine bk_kv tb_c_126_1 rfl rfl rfl rfl rfl (ci := 0) g28 rfl (ev_up (Nat.le_of_ble_eq_true rfl) (sn_Bodies_root g28 c31)) ?_
          refine bk_b (q := (95, [(0, .ref 128), (1, .int l1), (2, .int l2)], [.int (0 : Int32), .int x30, .ref 128])) tb_c_126_1 mx_126 1 rfl ?_
          obtain ⟨S32, c34, h⟩ := wd_dx h
          refine bk_kv tb_c_126_1 rfl rfl rfl rfl rfl (ci := 3) rfl rfl (ev_up (Nat.le_of_ble_eq_true rfl) (rc_Printer_show_130 200 c34)) ?_
          refine bk_b (q := (99, [(0, .ref 128), (1, .int l1), (2, .int l2)], [.ref 128])) tb_c_126_1 mx_126 1 rfl ?_
          refine bk_ct tb_c_126_1 rfl rfl (x := 19) rfl ?_
          obtain ⟨S35, c37, h⟩ := wd_dx h
          refine bk_kv tb_c_126_1 rfl rfl rfl rfl rfl (ci := 3) rfl rfl (ev_up (Nat.le_of_ble_eq_true rfl) (sn_Printer_putText c37)) ?_
          cases h
          exact bk_t tb_c_126_1 rfl rfl
        · rw [if_neg g28] at h; cases h
      · rw [if_neg g24] at h; cases h
/-- Specialiser$Printer.showVersion(I)V -/
noncomputable def fn_Printer_showVersion (p1 : Int32) (S : wd_S) : Option wd_S :=
  (if tp_t (S.2.2.1 128 2) = (0, 9) then
    (wd_c (fn_Versions_bodies (S.2.2.1 128 2) S) fun x3 S2 => if tp_t x3 = (0, 0) then
      (wd_c (fn_Bodies_params x3 p1 S2) fun x7 S6 =>
      (wd_b (wd_i S6 128 6 x7) fun S9 =>
      (wd_b (wd_i S9 128 7 (0 : Int32)) fun S10 =>
      (wd_d (fn_Printer_put (118 : Int32) S10) fun S11 =>
      (wd_d (fn_Printer_putNumber p1 S11) fun S14 =>
      (wd_d (fn_Printer_put (40 : Int32) S14) fun S17 =>
      fn_Printer_showVersion_39 wd_F p1 (0 : Int32) S17))))))
    else none)
  else none)
set_option maxRecDepth 100000 in
theorem sn_Printer_showVersion {L : Nat} {xs : Nat → Int32} {p1 : Int32} {S : wd_S} {S' : wd_S} (h : fn_Printer_showVersion p1 S = some S') : ev_r tb_P L xs (204 + 1) 126 [.ref 128, .int p1] (wd_k S) (.inl none, wd_k S') := by
  unfold fn_Printer_showVersion at h
  refine ev_of (Nat.le_of_ble_eq_true rfl) ?_
  show go_r tb_P L xs 204 126 0 [(0, .ref 128), (1, .int p1)] [] (wd_k S) (.inl none, wd_k S')
  refine bk_b (q := (2, [(0, .ref 128), (1, .int p1)], [.ref 128, .ref 128])) tb_c_126_0 mx_126 2 rfl ?_
  refine bk_gm tb_c_126_0 rfl rfl (ci := 3) (k := 2) rfl rfl rfl ?_
  by_cases g1 : tp_t (S.2.2.1 128 2) = (0, 9)
  · rw [if_pos g1] at h
    obtain ⟨x3, S2, c4, h⟩ := wd_cx h
    by_cases g5 : tp_t x3 = (0, 0)
    · rw [if_pos g5] at h
      refine bk_kv tb_c_126_0 rfl rfl rfl rfl rfl (ci := 9) g1 rfl (ev_up (Nat.le_of_ble_eq_true rfl) (sn_Versions_bodies g1 c4)) ?_
      refine bk_b (q := (9, [(0, .ref 128), (1, .int p1)], [.int p1, .ref x3, .ref 128])) tb_c_126_0 mx_126 1 rfl ?_
      obtain ⟨x7, S6, c8, h⟩ := wd_cx h
      refine bk_kv tb_c_126_0 rfl rfl rfl rfl rfl (ci := 0) g5 rfl (ev_up (Nat.le_of_ble_eq_true rfl) (sn_Bodies_params g5 c8)) ?_
      obtain ⟨S9, eS9, h⟩ := wd_bx h
      refine bk_pi tb_c_126_0 rfl rfl (ci := 3) (k := 6) rfl rfl rfl rfl ?_
      rw [eS9]
      refine bk_b (q := (17, [(0, .ref 128), (1, .int p1)], [.int (0 : Int32), .ref 128])) tb_c_126_0 mx_126 2 rfl ?_
      obtain ⟨S10, eS10, h⟩ := wd_bx h
      refine bk_pi tb_c_126_0 rfl rfl (ci := 3) (k := 7) rfl rfl rfl rfl ?_
      rw [eS10]
      refine bk_b (q := (23, [(0, .ref 128), (1, .int p1)], [.int (118 : Int32), .ref 128])) tb_c_126_0 mx_126 2 rfl ?_
      obtain ⟨S11, c13, h⟩ := wd_dx h
      refine bk_kv tb_c_126_0 rfl rfl rfl rfl rfl (ci := 3) rfl rfl (ev_up (Nat.le_of_ble_eq_true rfl) (sn_Printer_put c13)) ?_
      refine bk_b (q := (28, [(0, .ref 128), (1, .int p1)], [.int p1, .ref 128])) tb_c_126_0 mx_126 2 rfl ?_
      obtain ⟨S14, c16, h⟩ := wd_dx h
      refine bk_kv tb_c_126_0 rfl rfl rfl rfl rfl (ci := 3) rfl rfl (ev_up (Nat.le_of_ble_eq_true rfl) (sn_Printer_putNumber c16)) ?_
      refine bk_b (q := (34, [(0, .ref 128), (1, .int p1)], [.int (40 : Int32), .ref 128])) tb_c_126_0 mx_126 2 rfl ?_
      obtain ⟨S17, c19, h⟩ := wd_dx h
      refine bk_kv tb_c_126_0 rfl rfl rfl rfl rfl (ci := 3) rfl rfl (ev_up (Nat.le_of_ble_eq_true rfl) (sn_Printer_put c19)) ?_
      refine bk_b (q := (39, [(2, .int (0 : Int32)), (0, .ref 128), (1, .int p1)], [])) tb_c_126_0 mx_126 2 rfl ?_
      exact go_lv (ls_sc rfl rfl (ls_sc rfl rfl (ls_sc rfl rfl ls_nil))) (sn_Printer_showVersion_39 wd_F h)
    · rw [if_neg g5] at h; cases h
  · rw [if_neg g1] at h; cases h
theorem mx_125 : mi_mx tb_P 125 = 4 := rfl
noncomputable def fn_Printer_showAll_28 : Nat → Int32 → wd_S → Option (Int32 × wd_S)
  | 0, _, _ => none
  | n + 1, l3, S =>
    (if tp_t (S.2.2.1 128 2) = (0, 9) then
      (wd_c (fn_Versions_count (S.2.2.1 128 2) S) fun x16 S15 =>
      (if l3 < x16 then
        (wd_d (fn_Printer_showVersion l3 S15) fun S19 =>
        fn_Printer_showAll_28 n (l3 + (1 : Int32)) S19)
      else
        some (S15.1 128 5, S15)))
    else none)
set_option maxRecDepth 100000 in
theorem sn_Printer_showAll_28 {L : Nat} {xs : Nat → Int32} : ∀ (n : Nat) {l3 : Int32} {S : wd_S} {x : Int32} {S' : wd_S}, fn_Printer_showAll_28 n l3 S = some (x, S') → go_r tb_P L xs 205 125 28 [(0, .ref 128), (3, .int l3)] [] (wd_k S) (.inl (some (.int x)), wd_k S') := by
  intro n
  induction n with
  | zero => intro l3 S x S'  h; cases h
  | succ n ih =>
    intro l3 S x S'  h
    rw [fn_Printer_showAll_28] at h
    refine bk_b (q := (30, [(0, .ref 128), (3, .int l3)], [.ref 128, .int l3])) tb_c_125_0 mx_125 2 rfl ?_
    refine bk_gm tb_c_125_0 rfl rfl (ci := 3) (k := 2) rfl rfl rfl ?_
    by_cases g14 : tp_t (S.2.2.1 128 2) = (0, 9)
    · rw [if_pos g14] at h
      obtain ⟨x16, S15, c17, h⟩ := wd_cx h
      refine bk_kv tb_c_125_0 rfl rfl rfl rfl rfl (ci := 9) g14 rfl (ev_up (Nat.le_of_ble_eq_true rfl) (sn_Versions_count g14 c17)) ?_
      by_cases g18 : l3 < x16
      · rw [if_pos g18] at h
        refine bk_jf tb_c_125_0 rfl (pc' := 39) rfl (t := 50) rfl (cm_ge_f g18) ?_
        refine bk_b (q := (41, [(0, .ref 128), (3, .int l3)], [.int l3, .ref 128])) tb_c_125_0 mx_125 2 rfl ?_
        obtain ⟨S19, c21, h⟩ := wd_dx h
        refine bk_kv tb_c_125_0 rfl rfl rfl rfl rfl (ci := 3) rfl rfl (ev_up (Nat.le_of_ble_eq_true rfl) (sn_Printer_showVersion c21)) ?_
        refine bk_b (q := (28, [(3, .int (l3 + (1 : Int32))), (0, .ref 128)], [])) tb_c_125_0 mx_125 2 rfl ?_
        exact go_lv (ls_sc rfl rfl (ls_sc rfl rfl ls_nil)) (ih h)
      · rw [if_neg g18] at h
        refine bk_jt tb_c_125_0 rfl (pc' := 50) rfl (cm_ge_t g18) ?_
        refine bk_b (q := (51, [(0, .ref 128), (3, .int l3)], [.ref 128])) tb_c_125_0 mx_125 1 rfl ?_
        refine bk_gi tb_c_125_0 rfl rfl (ci := 3) (k := 5) rfl rfl rfl ?_
        cases h
        exact bk_t tb_c_125_0 rfl rfl
    · rw [if_neg g14] at h; cases h
/-- Specialiser$Printer.showAll(LSpecialiser$Versions;Z)I -/
noncomputable def fn_Printer_showAll (p1 : Nat) (p2 : Int32) (S : wd_S) : Option (Int32 × wd_S) :=
  (wd_b (wd_r S 128 2 p1) fun S1 =>
  (wd_c (fn_Versions_bodies p1 S1) fun x3 S2 => if tp_t x3 = (0, 0) then
    (wd_c (fn_Bodies_trees x3 S2) fun x7 S6 => if tp_t x7 = (0, 8) then
      (wd_b (wd_r S6 128 3 x7) fun S10 =>
      (if mi_fit .boolean (.int p2) = true then
      (wd_b (wd_i S10 128 4 p2) fun S11 =>
      (wd_b (wd_i S11 128 5 (0 : Int32)) fun S13 =>
      fn_Printer_showAll_28 wd_F (0 : Int32) S13))
      else none))
    else none)
  else none))
set_option maxRecDepth 100000 in
theorem sn_Printer_showAll {L : Nat} {xs : Nat → Int32} {p1 : Nat} {p2 : Int32} {S : wd_S} {x : Int32} {S' : wd_S} (hp1 : tp_t p1 = (0, 9)) (h : fn_Printer_showAll p1 p2 S = some (x, S')) : ev_r tb_P L xs (205 + 1) 125 [.ref 128, .ref p1, .int p2] (wd_k S) (.inl (some (.int x)), wd_k S') := by
  unfold fn_Printer_showAll at h
  refine ev_of (Nat.le_of_ble_eq_true rfl) ?_
  show go_r tb_P L xs 205 125 0 [(0, .ref 128), (1, .ref p1), (2, .int p2)] [] (wd_k S) (.inl (some (.int x)), wd_k S')
  refine bk_b (q := (2, [(0, .ref 128), (1, .ref p1), (2, .int p2)], [.ref p1, .ref 128])) tb_c_125_0 mx_125 2 rfl ?_
  obtain ⟨S1, eS1, h⟩ := wd_bx h
  refine bk_pr tb_c_125_0 rfl rfl (ci := 3) (k := 2) rfl rfl rfl rfl ?_
  rw [eS1]
  refine bk_b (q := (7, [(0, .ref 128), (1, .ref p1), (2, .int p2)], [.ref p1, .ref 128])) tb_c_125_0 mx_125 2 rfl ?_
  obtain ⟨x3, S2, c4, h⟩ := wd_cx h
  by_cases g5 : tp_t x3 = (0, 0)
  · rw [if_pos g5] at h
    refine bk_kv tb_c_125_0 rfl rfl rfl rfl rfl (ci := 9) hp1 rfl (ev_up (Nat.le_of_ble_eq_true rfl) (sn_Versions_bodies hp1 c4)) ?_
    obtain ⟨x7, S6, c8, h⟩ := wd_cx h
    by_cases g9 : tp_t x7 = (0, 8)
    · rw [if_pos g9] at h
      refine bk_kv tb_c_125_0 rfl rfl rfl rfl rfl (ci := 0) g5 rfl (ev_up (Nat.le_of_ble_eq_true rfl) (sn_Bodies_trees g5 c8)) ?_
      obtain ⟨S10, eS10, h⟩ := wd_bx h
      refine bk_pr tb_c_125_0 rfl rfl (ci := 3) (k := 3) rfl rfl rfl rfl ?_
      rw [eS10]
      refine bk_b (q := (18, [(0, .ref 128), (1, .ref p1), (2, .int p2)], [.int p2, .ref 128])) tb_c_125_0 mx_125 2 rfl ?_
      by_cases g12 : mi_fit .boolean (.int p2) = true
      · rw [if_pos g12] at h
        obtain ⟨S11, eS11, h⟩ := wd_bx h
        refine bk_pi tb_c_125_0 rfl rfl (ci := 3) (k := 4) rfl rfl rfl g12 ?_
        rw [eS11]
        refine bk_b (q := (23, [(0, .ref 128), (1, .ref p1), (2, .int p2)], [.int (0 : Int32), .ref 128])) tb_c_125_0 mx_125 2 rfl ?_
        obtain ⟨S13, eS13, h⟩ := wd_bx h
        refine bk_pi tb_c_125_0 rfl rfl (ci := 3) (k := 5) rfl rfl rfl rfl ?_
        rw [eS13]
        refine bk_b (q := (28, [(3, .int (0 : Int32)), (0, .ref 128), (1, .ref p1), (2, .int p2)], [])) tb_c_125_0 mx_125 2 rfl ?_
        exact go_lv (ls_sc rfl rfl (ls_sc rfl rfl ls_nil)) (sn_Printer_showAll_28 wd_F h)
      · rw [if_neg g12] at h; cases h
    · rw [if_neg g9] at h; cases h
  · rw [if_neg g5] at h; cases h
