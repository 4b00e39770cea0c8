/-! Methods as functions: printed by wip/whole/gen_fn.py. -/
theorem mx_93 : mi_mx tb_P 93 = 4 := rfl
noncomputable def fn_Maker_become_16 (slf : Nat → Int32 → Int32 → wd_S → Option ((Int32 ⊕ String) × wd_S)) (S : wd_S) : Option ((Int32 ⊕ String) × wd_S) :=
  some (.inr "java/lang/UnsupportedOperationException", wd_n S)
set_option maxRecDepth 100000 in
theorem sn_Maker_become_16 {L : Nat} {xs : Nat → Int32} {D : Nat} {slf : Nat → Int32 → Int32 → wd_S → Option ((Int32 ⊕ String) × wd_S)} (hD : 4 ≤ D) (hs93 : ∀ {a b : Int32} {S : wd_S} {x : Int32 ⊕ String} {S' : wd_S}, slf 93 a b S = some (x, S') → ev_r tb_P L xs D 93 [.ref 115, .int a, .int b] (wd_k S) (wd_wi x, wd_k S')) (hs94 : ∀ {a b : Int32} {S : wd_S} {x : Int32 ⊕ String} {S' : wd_S}, slf 94 a b S = some (x, S') → ev_r tb_P L xs D 94 [.ref 115, .int a, .int b] (wd_k S) (wd_wi x, wd_k S')) (hs97 : ∀ {a b : Int32} {S : wd_S} {x : Int32 ⊕ String} {S' : wd_S}, slf 97 a b S = some (x, S') → ev_r tb_P L xs D 97 [.ref 115, .int a, .int b] (wd_k S) (wd_wi x, wd_k S')) (hs98 : ∀ {a b : Int32} {S : wd_S} {x : Int32 ⊕ String} {S' : wd_S}, slf 98 a b S = some (x, S') → ev_r tb_P L xs D 98 [.ref 115, .int a, .int b] (wd_k S) (wd_wi x, wd_k S')) (hs115 : ∀ {a b : Int32} {S : wd_S} {x : Int32 ⊕ String} {S' : wd_S}, slf 115 a b S = some (x, S') → ev_r tb_P L xs D 115 [.ref 115, .int a, .int b] (wd_k S) (wd_wi x, wd_k S')) {S : wd_S} {x : Int32 ⊕ String} {S' : wd_S} (h : fn_Maker_become_16 slf  S = some (x, S')) : go_r tb_P L xs D 93 16 [] [] (wd_k S) (wd_wi x, wd_k S') := by
  unfold fn_Maker_become_16 at h
  cases h
  exact bk_x rfl
noncomputable def fn_Maker_become_127 (slf : Nat → Int32 → Int32 → wd_S → Option ((Int32 ⊕ String) × wd_S)) (l3 : Int32) (s0 : Nat) (s1 : Int32) (S : wd_S) : Option ((Int32 ⊕ String) × wd_S) :=
  (wd_c (fn_Row_at 118 l3 S) fun x28 S27 =>
  (wd_c (fn_Trees_open s0 s1 x28 S27) fun x31 S30 =>
  some (.inl x31, S30)))
set_option maxRecDepth 100000 in
theorem sn_Maker_become_127 {L : Nat} {xs : Nat → Int32} {D : Nat} {slf : Nat → Int32 → Int32 → wd_S → Option ((Int32 ⊕ String) × wd_S)} (hD : 4 ≤ D) (hs93 : ∀ {a b : Int32} {S : wd_S} {x : Int32 ⊕ String} {S' : wd_S}, slf 93 a b S = some (x, S') → ev_r tb_P L xs D 93 [.ref 115, .int a, .int b] (wd_k S) (wd_wi x, wd_k S')) (hs94 : ∀ {a b : Int32} {S : wd_S} {x : Int32 ⊕ String} {S' : wd_S}, slf 94 a b S = some (x, S') → ev_r tb_P L xs D 94 [.ref 115, .int a, .int b] (wd_k S) (wd_wi x, wd_k S')) (hs97 : ∀ {a b : Int32} {S : wd_S} {x : Int32 ⊕ String} {S' : wd_S}, slf 97 a b S = some (x, S') → ev_r tb_P L xs D 97 [.ref 115, .int a, .int b] (wd_k S) (wd_wi x, wd_k S')) (hs98 : ∀ {a b : Int32} {S : wd_S} {x : Int32 ⊕ String} {S' : wd_S}, slf 98 a b S = some (x, S') → ev_r tb_P L xs D 98 [.ref 115, .int a, .int b] (wd_k S) (wd_wi x, wd_k S')) (hs115 : ∀ {a b : Int32} {S : wd_S} {x : Int32 ⊕ String} {S' : wd_S}, slf 115 a b S = some (x, S') → ev_r tb_P L xs D 115 [.ref 115, .int a, .int b] (wd_k S) (wd_wi x, wd_k S')) {l3 : Int32} {s0 : Nat} {s1 : Int32} {S : wd_S} {x : Int32 ⊕ String} {S' : wd_S} (hs0 : tp_t s0 = (0, 8)) (h : fn_Maker_become_127 slf l3 s0 s1 S = some (x, S')) : go_r tb_P L xs D 93 127 [(0, .ref 115), (3, .int l3)] [.int s1, .ref s0] (wd_k S) (wd_wi x, wd_k S') := by
  unfold fn_Maker_become_127 at h
  refine bk_b (q := (128, [(0, .ref 115), (3, .int l3)], [.ref 115, .int s1, .ref s0])) tb_c_93_1 mx_93 1 rfl ?_
  refine bk_gc tb_c_93_1 rfl rfl (ci := 2) (k := 6) rfl rfl rfl ?_
  refine bk_b (q := (132, [(0, .ref 115), (3, .int l3)], [.int l3, .ref 118, .int s1, .ref s0])) tb_c_93_1 mx_93 1 rfl ?_
  obtain ⟨x28, S27, c29, h⟩ := wd_cx h
  refine bk_kv tb_c_93_1 rfl rfl rfl rfl rfl (ci := 5) rfl rfl (ev_up (Nat.le_trans (Nat.le_of_ble_eq_true rfl) hD) (sn_Row_at rfl c29)) ?_
  obtain ⟨x31, S30, c32, h⟩ := wd_cx h
  refine bk_kv tb_c_93_1 rfl rfl rfl rfl rfl (ci := 8) hs0 rfl (ev_up (Nat.le_trans (Nat.le_of_ble_eq_true rfl) hD) (sn_Trees_open hs0 c32)) ?_
  cases h
  exact bk_t tb_c_93_1 rfl rfl
/-- Specialiser$Maker.become(II)I -/
noncomputable def fn_Maker_become (slf : Nat → Int32 → Int32 → wd_S → Option ((Int32 ⊕ String) × wd_S)) (p1 : Int32) (p2 : Int32) (S : wd_S) : Option ((Int32 ⊕ String) × wd_S) :=
  (if (S.1 115 8) < (1000 : Int32) then
    (if p2 < (96 : Int32) then
      (wd_b (wd_i S 115 8 ((S.1 115 8) + (1 : Int32))) fun S3 =>
      (if tp_t (S3.2.2.1 115 2) = (0, 8) then
        (wd_c (fn_Trees_kind (S3.2.2.1 115 2) p1 S3) fun x6 S5 =>
        (if x6 = (1 : Int32) then
          (if tp_t (S5.2.2.1 115 4) = (0, 8) then
            (if tp_t (S5.2.2.1 115 2) = (0, 8) then
              (wd_c (fn_Trees_value (S5.2.2.1 115 2) p1 S5) fun x12 S11 =>
              (wd_c (fn_Trees_open (S5.2.2.1 115 4) (1 : Int32) x12 S11) fun x15 S14 =>
              some (.inl x15, S14)))
            else none)
          else none)
        else
        (if x6 = (2 : Int32) then
          (if tp_t (S5.2.2.1 115 2) = (0, 8) then
            (wd_c (fn_Trees_value (S5.2.2.1 115 2) p1 S5) fun x20 S19 =>
            (if tp_t (S19.2.2.1 115 4) = (0, 8) then
              (wd_c (fn_Row_at 116 x20 S19) fun x24 S23 =>
              (if x24 = (1 : Int32) then
                fn_Maker_become_127 slf x20 (S19.2.2.1 115 4) (1 : Int32) S23
              else
                fn_Maker_become_127 slf x20 (S19.2.2.1 115 4) (2 : Int32) S23))
            else none))
          else none)
        else
        (if x6 = (3 : Int32) then
          (wd_c (slf 94 p1 p2 S5) fun x35o S34 => wd_o x35o (fun x35 =>
          some (.inl x35, S34)) (fun E37 => some (.inr E37, S34)))
        else
        (if x6 = (4 : Int32) then
          (wd_c (slf 97 p1 p2 S5) fun x40o S39 => wd_o x40o (fun x40 =>
          some (.inl x40, S39)) (fun E42 => some (.inr E42, S39)))
        else
        (if x6 = (5 : Int32) then
          (wd_c (slf 98 p1 p2 S5) fun x45o S44 => wd_o x45o (fun x45 =>
          some (.inl x45, S44)) (fun E47 => some (.inr E47, S44)))
        else
        (wd_c (slf 115 p1 p2 S5) fun x49o S48 => wd_o x49o (fun x49 =>
        some (.inl x49, S48)) (fun E51 => some (.inr E51, S48)))))))))
      else none))
    else
      fn_Maker_become_16 slf  S)
  else
    fn_Maker_become_16 slf  S)
set_option maxRecDepth 100000 in
theorem sn_Maker_become {L : Nat} {xs : Nat → Int32} {D : Nat} {slf : Nat → Int32 → Int32 → wd_S → Option ((Int32 ⊕ String) × wd_S)} (hD : 4 ≤ D) (hs93 : ∀ {a b : Int32} {S : wd_S} {x : Int32 ⊕ String} {S' : wd_S}, slf 93 a b S = some (x, S') → ev_r tb_P L xs D 93 [.ref 115, .int a, .int b] (wd_k S) (wd_wi x, wd_k S')) (hs94 : ∀ {a b : Int32} {S : wd_S} {x : Int32 ⊕ String} {S' : wd_S}, slf 94 a b S = some (x, S') → ev_r tb_P L xs D 94 [.ref 115, .int a, .int b] (wd_k S) (wd_wi x, wd_k S')) (hs97 : ∀ {a b : Int32} {S : wd_S} {x : Int32 ⊕ String} {S' : wd_S}, slf 97 a b S = some (x, S') → ev_r tb_P L xs D 97 [.ref 115, .int a, .int b] (wd_k S) (wd_wi x, wd_k S')) (hs98 : ∀ {a b : Int32} {S : wd_S} {x : Int32 ⊕ String} {S' : wd_S}, slf 98 a b S = some (x, S') → ev_r tb_P L xs D 98 [.ref 115, .int a, .int b] (wd_k S) (wd_wi x, wd_k S')) (hs115 : ∀ {a b : Int32} {S : wd_S} {x : Int32 ⊕ String} {S' : wd_S}, slf 115 a b S = some (x, S') → ev_r tb_P L xs D 115 [.ref 115, .int a, .int b] (wd_k S) (wd_wi x, wd_k S')) {p1 : Int32} {p2 : Int32} {S : wd_S} {x : Int32 ⊕ String} {S' : wd_S} (h : fn_Maker_become slf p1 p2 S = some (x, S')) : ev_r tb_P L xs (D + 1) 93 [.ref 115, .int p1, .int p2] (wd_k S) (wd_wi x, wd_k S') := by
  unfold fn_Maker_become at h
  refine ev_of (Nat.le_of_ble_eq_true rfl) ?_
  show go_r tb_P L xs D 93 0 [(0, .ref 115), (1, .int p1), (2, .int p2)] [] (wd_k S) (wd_wi x, wd_k S')
  refine bk_b (q := (1, [(0, .ref 115), (1, .int p1), (2, .int p2)], [.ref 115])) tb_c_93_0 mx_93 1 rfl ?_
  refine bk_gi tb_c_93_0 rfl rfl (ci := 2) (k := 8) rfl rfl rfl ?_
  refine bk_b (q := (7, [(0, .ref 115), (1, .int p1), (2, .int p2)], [.int (1000 : Int32), .int (S.1 115 8)])) tb_c_93_0 mx_93 1 rfl ?_
  by_cases g1 : (S.1 115 8) < (1000 : Int32)
  · rw [if_pos g1] at h
    refine bk_jf tb_c_93_0 rfl (pc' := 10) rfl (t := 16) rfl (cm_ge_f g1) ?_
    refine bk_b (q := (13, [(0, .ref 115), (1, .int p1), (2, .int p2)], [.int (96 : Int32), .int p2])) tb_c_93_0 mx_93 2 rfl ?_
    by_cases g2 : p2 < (96 : Int32)
    · rw [if_pos g2] at h
      refine bk_jt tb_c_93_0 rfl (pc' := 26) rfl (cm_lt_t g2) ?_
      refine bk_b (q := (28, [(0, .ref 115), (1, .int p1), (2, .int p2)], [.ref 115, .ref 115])) tb_c_93_0 mx_93 2 rfl ?_
      refine bk_gi tb_c_93_0 rfl rfl (ci := 2) (k := 8) rfl rfl rfl ?_
      refine bk_b (q := (33, [(0, .ref 115), (1, .int p1), (2, .int p2)], [.int ((S.1 115 8) + (1 : Int32)), .ref 115])) tb_c_93_0 mx_93 2 rfl ?_
      obtain ⟨S3, eS3, h⟩ := wd_bx h
      refine bk_pi tb_c_93_0 rfl rfl (ci := 2) (k := 8) rfl rfl rfl rfl ?_
      rw [eS3]
      refine bk_b (q := (37, [(0, .ref 115), (1, .int p1), (2, .int p2)], [.ref 115])) tb_c_93_0 mx_93 1 rfl ?_
      refine bk_gm tb_c_93_0 rfl rfl (ci := 2) (k := 2) rfl rfl rfl ?_
      by_cases g4 : tp_t (S3.2.2.1 115 2) = (0, 8)
      · rw [if_pos g4] at h
        refine bk_b (q := (41, [(0, .ref 115), (1, .int p1), (2, .int p2)], [.int p1, .ref (S3.2.2.1 115 2)])) tb_c_93_0 mx_93 1 rfl ?_
        obtain ⟨x6, S5, c7, h⟩ := wd_cx h
        refine bk_kv tb_c_93_0 rfl rfl rfl rfl rfl (ci := 8) g4 rfl (ev_up (Nat.le_trans (Nat.le_of_ble_eq_true rfl) hD) (sn_Trees_kind g4 c7)) ?_
        by_cases g8 : x6 = (1 : Int32)
        · rw [if_pos g8] at h
          refine bk_sw tb_c_93_0 rfl (pc' := 80) (by rw [g8]; rfl) ?_
          refine bk_b (q := (81, [(0, .ref 115), (1, .int p1), (2, .int p2)], [.ref 115])) tb_c_93_0 mx_93 1 rfl ?_
          refine bk_gm tb_c_93_0 rfl rfl (ci := 2) (k := 4) rfl rfl rfl ?_
          by_cases g9 : tp_t (S5.2.2.1 115 4) = (0, 8)
          · rw [if_pos g9] at h
            refine bk_b (q := (86, [(0, .ref 115), (1, .int p1), (2, .int p2)], [.ref 115, .int (1 : Int32), .ref (S5.2.2.1 115 4)])) tb_c_93_0 mx_93 2 rfl ?_
            refine bk_gm tb_c_93_0 rfl rfl (ci := 2) (k := 2) rfl rfl rfl ?_
            by_cases g10 : tp_t (S5.2.2.1 115 2) = (0, 8)
            · rw [if_pos g10] at h
              refine bk_b (q := (90, [(0, .ref 115), (1, .int p1), (2, .int p2)], [.int p1, .ref (S5.2.2.1 115 2), .int (1 : Int32), .ref (S5.2.2.1 115 4)])) tb_c_93_0 mx_93 1 rfl ?_
              obtain ⟨x12, S11, c13, h⟩ := wd_cx h
              refine bk_kv tb_c_93_0 rfl rfl rfl rfl rfl (ci := 8) g10 rfl (ev_up (Nat.le_trans (Nat.le_of_ble_eq_true rfl) hD) (sn_Trees_value g10 c13)) ?_
              obtain ⟨x15, S14, c16, h⟩ := wd_cx h
              refine bk_kv tb_c_93_0 rfl rfl rfl rfl rfl (ci := 8) g9 rfl (ev_up (Nat.le_trans (Nat.le_of_ble_eq_true rfl) hD) (sn_Trees_open g9 c16)) ?_
              cases h
              exact bk_t tb_c_93_0 rfl rfl
            · rw [if_neg g10] at h; cases h
          · rw [if_neg g9] at h; cases h
        · rw [if_neg g8] at h
          by_cases g17 : x6 = (2 : Int32)
          · rw [if_pos g17] at h
            refine bk_sw tb_c_93_0 rfl (pc' := 97) (by rw [g17]; rfl) ?_
            refine bk_b (q := (98, [(0, .ref 115), (1, .int p1), (2, .int p2)], [.ref 115])) tb_c_93_0 mx_93 1 rfl ?_
            refine bk_gm tb_c_93_0 rfl rfl (ci := 2) (k := 2) rfl rfl rfl ?_
            by_cases g18 : tp_t (S5.2.2.1 115 2) = (0, 8)
            · rw [if_pos g18] at h
              refine bk_b (q := (102, [(0, .ref 115), (1, .int p1), (2, .int p2)], [.int p1, .ref (S5.2.2.1 115 2)])) tb_c_93_0 mx_93 1 rfl ?_
              obtain ⟨x20, S19, c21, h⟩ := wd_cx h
              refine bk_kv tb_c_93_0 rfl rfl rfl rfl rfl (ci := 8) g18 rfl (ev_up (Nat.le_trans (Nat.le_of_ble_eq_true rfl) hD) (sn_Trees_value g18 c21)) ?_
              refine bk_b (q := (107, [(3, .int x20), (0, .ref 115), (1, .int p1), (2, .int p2)], [.ref 115])) tb_c_93_0 mx_93 2 rfl ?_
              refine bk_gm tb_c_93_0 rfl rfl (ci := 2) (k := 4) rfl rfl rfl ?_
              by_cases g22 : tp_t (S19.2.2.1 115 4) = (0, 8)
              · rw [if_pos g22] at h
                refine bk_b (q := (111, [(3, .int x20), (0, .ref 115), (1, .int p1), (2, .int p2)], [.ref 115, .ref (S19.2.2.1 115 4)])) tb_c_93_0 mx_93 1 rfl ?_
                refine bk_gc tb_c_93_0 rfl rfl (ci := 2) (k := 5) rfl rfl rfl ?_
                refine bk_b (q := (115, [(3, .int x20), (0, .ref 115), (1, .int p1), (2, .int p2)], [.int x20, .ref 116, .ref (S19.2.2.1 115 4)])) tb_c_93_0 mx_93 1 rfl ?_
                obtain ⟨x24, S23, c25, h⟩ := wd_cx h
                refine bk_kv tb_c_93_0 rfl rfl rfl rfl rfl (ci := 5) rfl rfl (ev_up (Nat.le_trans (Nat.le_of_ble_eq_true rfl) hD) (sn_Row_at rfl c25)) ?_
                refine bk_b (q := (119, [(3, .int x20), (0, .ref 115), (1, .int p1), (2, .int p2)], [.int (1 : Int32), .int x24, .ref (S19.2.2.1 115 4)])) tb_c_93_0 mx_93 1 rfl ?_
                by_cases g26 : x24 = (1 : Int32)
                · rw [if_pos g26] at h
                  refine bk_jf tb_c_93_0 rfl (pc' := 122) rfl (t := 126) rfl (cm_ne_f g26) ?_
                  refine bk_b (q := (127, [(3, .int x20), (0, .ref 115), (1, .int p1), (2, .int p2)], [.int (1 : Int32), .ref (S19.2.2.1 115 4)])) tb_c_93_1 mx_93 2 rfl ?_
                  exact go_lv (ls_sc rfl rfl (ls_sc rfl rfl ls_nil)) (sn_Maker_become_127 hD hs93 hs94 hs97 hs98 hs115 g22 h)
                · rw [if_neg g26] at h
                  refine bk_jt tb_c_93_0 rfl (pc' := 126) rfl (cm_ne_t g26) ?_
                  refine bk_b (q := (127, [(3, .int x20), (0, .ref 115), (1, .int p1), (2, .int p2)], [.int (2 : Int32), .ref (S19.2.2.1 115 4)])) tb_c_93_1 mx_93 1 rfl ?_
                  exact go_lv (ls_sc rfl rfl (ls_sc rfl rfl ls_nil)) (sn_Maker_become_127 hD hs93 hs94 hs97 hs98 hs115 g22 h)
              · rw [if_neg g22] at h; cases h
            · rw [if_neg g18] at h; cases h
          · rw [if_neg g17] at h
            by_cases g33 : x6 = (3 : Int32)
            · rw [if_pos g33] at h
              refine bk_sw tb_c_93_0 rfl (pc' := 139) (by rw [g33]; rfl) ?_
              refine bk_b (q := (142, [(0, .ref 115), (1, .int p1), (2, .int p2)], [.int p2, .int p1, .ref 115])) tb_c_93_1 mx_93 3 rfl ?_
              obtain ⟨x35o, S34, c36, h⟩ := wd_cx h
              rcases wd_ox h with ⟨x35, rfl, nx35⟩ | ⟨E37, rfl, nx35⟩
              · replace h := nx35
                refine bk_kv tb_c_93_1 rfl rfl rfl rfl rfl (ci := 2) rfl rfl (hs94 c36) ?_
                cases h
                exact bk_t tb_c_93_1 rfl rfl
              · replace h := nx35
                cases h
                exact bk_kp tb_c_93_1 rfl rfl rfl rfl rfl (ci := 2) rfl rfl (hs94 c36) rfl rfl
            · rw [if_neg g33] at h
              by_cases g38 : x6 = (4 : Int32)
              · rw [if_pos g38] at h
                refine bk_sw tb_c_93_0 rfl (pc' := 146) (by rw [g38]; rfl) ?_
                refine bk_b (q := (149, [(0, .ref 115), (1, .int p1), (2, .int p2)], [.int p2, .int p1, .ref 115])) tb_c_93_1 mx_93 3 rfl ?_
                obtain ⟨x40o, S39, c41, h⟩ := wd_cx h
                rcases wd_ox h with ⟨x40, rfl, nx40⟩ | ⟨E42, rfl, nx40⟩
                · replace h := nx40
                  refine bk_kv tb_c_93_1 rfl rfl rfl rfl rfl (ci := 2) rfl rfl (hs97 c41) ?_
                  cases h
                  exact bk_t tb_c_93_1 rfl rfl
                · replace h := nx40
                  cases h
                  exact bk_kp tb_c_93_1 rfl rfl rfl rfl rfl (ci := 2) rfl rfl (hs97 c41) rfl rfl
              · rw [if_neg g38] at h
                by_cases g43 : x6 = (5 : Int32)
                · rw [if_pos g43] at h
                  refine bk_sw tb_c_93_0 rfl (pc' := 153) (by rw [g43]; rfl) ?_
                  refine bk_b (q := (156, [(0, .ref 115), (1, .int p1), (2, .int p2)], [.int p2, .int p1, .ref 115])) tb_c_93_1 mx_93 3 rfl ?_
                  obtain ⟨x45o, S44, c46, h⟩ := wd_cx h
                  rcases wd_ox h with ⟨x45, rfl, nx45⟩ | ⟨E47, rfl, nx45⟩
                  · replace h := nx45
                    refine bk_kv tb_c_93_1 rfl rfl rfl rfl rfl (ci := 2) rfl rfl (hs98 c46) ?_
                    cases h
                    exact bk_t tb_c_93_1 rfl rfl
                  · replace h := nx45
                    cases h
                    exact bk_kp tb_c_93_1 rfl rfl rfl rfl rfl (ci := 2) rfl rfl (hs98 c46) rfl rfl
                · rw [if_neg g43] at h
                  refine bk_sw tb_c_93_0 rfl (pc' := 160) (sw_t (t := 160) (fun i h1 h2 => ?_) rfl) ?_
                  · have hi : i = 1 ∨ i = 2 ∨ i = 3 ∨ i = 4 ∨ i = 5 := by omega
                    rcases hi with rfl | rfl | rfl | rfl | rfl
                    · exact g8
                    · exact g17
                    · exact g33
                    · exact g38
                    · exact g43
                  · refine bk_b (q := (163, [(0, .ref 115), (1, .int p1), (2, .int p2)], [.int p2, .int p1, .ref 115])) tb_c_93_1 mx_93 3 rfl ?_
                    obtain ⟨x49o, S48, c50, h⟩ := wd_cx h
                    rcases wd_ox h with ⟨x49, rfl, nx49⟩ | ⟨E51, rfl, nx49⟩
                    · replace h := nx49
                      refine bk_kv tb_c_93_1 rfl rfl rfl rfl rfl (ci := 2) rfl rfl (hs115 c50) ?_
                      cases h
                      exact bk_t tb_c_93_1 rfl rfl
                    · replace h := nx49
                      cases h
                      exact bk_kp tb_c_93_1 rfl rfl rfl rfl rfl (ci := 2) rfl rfl (hs115 c50) rfl rfl
      · rw [if_neg g4] at h; cases h
    · rw [if_neg g2] at h
      refine bk_jf tb_c_93_0 rfl (pc' := 16) rfl (t := 26) rfl (cm_lt_f g2) ?_
      exact go_lv ls_nil (sn_Maker_become_16 hD hs93 hs94 hs97 hs98 hs115 h)
  · rw [if_neg g1] at h
    refine bk_jt tb_c_93_0 rfl (pc' := 16) rfl (cm_ge_t g1) ?_
    exact go_lv ls_nil (sn_Maker_become_16 hD hs93 hs94 hs97 hs98 hs115 h)
noncomputable def rc_Maker_become : Nat → Nat → Int32 → Int32 → wd_S → Option ((Int32 ⊕ String) × wd_S)
  | 0, _, _, _, _ => none
  | n + 1, t, a, b, S => if t = 93 then fn_Maker_become (rc_Maker_become n) a b S else if t = 94 then fn_Maker_becomeLet (rc_Maker_become n) a b S else if t = 97 then fn_Maker_becomeIf (rc_Maker_become n) a b S else if t = 98 then fn_Maker_becomeCall (rc_Maker_become n) a b S else if t = 115 then fn_Maker_becomeSign (rc_Maker_become n) a b S else none
theorem rc_Maker_become_ok {L : Nat} {xs : Nat → Int32} : ∀ n : Nat, (∀ {a b : Int32} {S : wd_S} {x : Int32 ⊕ String} {S' : wd_S}, rc_Maker_become n 93 a b S = some (x, S') → ev_r tb_P L xs (n + 4) 93 [.ref 115, .int a, .int b] (wd_k S) (wd_wi x, wd_k S')) ∧ (∀ {a b : Int32} {S : wd_S} {x : Int32 ⊕ String} {S' : wd_S}, rc_Maker_become n 94 a b S = some (x, S') → ev_r tb_P L xs (n + 4) 94 [.ref 115, .int a, .int b] (wd_k S) (wd_wi x, wd_k S')) ∧ (∀ {a b : Int32} {S : wd_S} {x : Int32 ⊕ String} {S' : wd_S}, rc_Maker_become n 97 a b S = some (x, S') → ev_r tb_P L xs (n + 4) 97 [.ref 115, .int a, .int b] (wd_k S) (wd_wi x, wd_k S')) ∧ (∀ {a b : Int32} {S : wd_S} {x : Int32 ⊕ String} {S' : wd_S}, rc_Maker_become n 98 a b S = some (x, S') → ev_r tb_P L xs (n + 4) 98 [.ref 115, .int a, .int b] (wd_k S) (wd_wi x, wd_k S')) ∧ (∀ {a b : Int32} {S : wd_S} {x : Int32 ⊕ String} {S' : wd_S}, rc_Maker_become n 115 a b S = some (x, S') → ev_r tb_P L xs (n + 4) 115 [.ref 115, .int a, .int b] (wd_k S) (wd_wi x, wd_k S')) := by
  intro n
  induction n with
  | zero => exact ⟨(fun h => by cases h), (fun h => by cases h), (fun h => by cases h), (fun h => by cases h), (fun h => by cases h)⟩
  | succ n ih =>
    obtain ⟨i93, i94, i97, i98, i115⟩ := ih
    refine ⟨?_, ?_, ?_, ?_, ?_⟩
    · intro a b S x S' h
      have h : fn_Maker_become (rc_Maker_become n) a b S = some (x, S') := h
      rw [show n + 1 + 4 = n + 4 + 1 by omega]
      exact sn_Maker_become (Nat.le_add_left _ _) i93 i94 i97 i98 i115 h
    · intro a b S x S' h
      have h : fn_Maker_becomeLet (rc_Maker_become n) a b S = some (x, S') := h
      rw [show n + 1 + 4 = n + 4 + 1 by omega]
      exact sn_Maker_becomeLet (Nat.le_add_left _ _) i93 i94 i97 i98 i115 h
    · intro a b S x S' h
      have h : fn_Maker_becomeIf (rc_Maker_become n) a b S = some (x, S') := h
      rw [show n + 1 + 4 = n + 4 + 1 by omega]
      exact sn_Maker_becomeIf (Nat.le_add_left _ _) i93 i94 i97 i98 i115 h
    · intro a b S x S' h
      have h : fn_Maker_becomeCall (rc_Maker_become n) a b S = some (x, S') := h
      rw [show n + 1 + 4 = n + 4 + 1 by omega]
      exact sn_Maker_becomeCall (Nat.le_add_left _ _) i93 i94 i97 i98 i115 h
    · intro a b S x S' h
      have h : fn_Maker_becomeSign (rc_Maker_become n) a b S = some (x, S') := h
      rw [show n + 1 + 4 = n + 4 + 1 by omega]
      exact sn_Maker_becomeSign (Nat.le_add_left _ _) i93 i94 i97 i98 i115 h
theorem rc_Maker_become_93 {L : Nat} {xs : Nat → Int32} (n : Nat) : ∀ {a b : Int32} {S : wd_S} {x : Int32 ⊕ String} {S' : wd_S}, rc_Maker_become n 93 a b S = some (x, S') → ev_r tb_P L xs (n + 4) 93 [.ref 115, .int a, .int b] (wd_k S) (wd_wi x, wd_k S') := (rc_Maker_become_ok n).1
theorem rc_Maker_become_94 {L : Nat} {xs : Nat → Int32} (n : Nat) : ∀ {a b : Int32} {S : wd_S} {x : Int32 ⊕ String} {S' : wd_S}, rc_Maker_become n 94 a b S = some (x, S') → ev_r tb_P L xs (n + 4) 94 [.ref 115, .int a, .int b] (wd_k S) (wd_wi x, wd_k S') := (rc_Maker_become_ok n).2.1
theorem rc_Maker_become_97 {L : Nat} {xs : Nat → Int32} (n : Nat) : ∀ {a b : Int32} {S : wd_S} {x : Int32 ⊕ String} {S' : wd_S}, rc_Maker_become n 97 a b S = some (x, S') → ev_r tb_P L xs (n + 4) 97 [.ref 115, .int a, .int b] (wd_k S) (wd_wi x, wd_k S') := (rc_Maker_become_ok n).2.2.1
theorem rc_Maker_become_98 {L : Nat} {xs : Nat → Int32} (n : Nat) : ∀ {a b : Int32} {S : wd_S} {x : Int32 ⊕ String} {S' : wd_S}, rc_Maker_become n 98 a b S = some (x, S') → ev_r tb_P L xs (n + 4) 98 [.ref 115, .int a, .int b] (wd_k S) (wd_wi x, wd_k S') := (rc_Maker_become_ok n).2.2.2.1
theorem rc_Maker_become_115 {L : Nat} {xs : Nat → Int32} (n : Nat) : ∀ {a b : Int32} {S : wd_S} {x : Int32 ⊕ String} {S' : wd_S}, rc_Maker_become n 115 a b S = some (x, S') → ev_r tb_P L xs (n + 4) 115 [.ref 115, .int a, .int b] (wd_k S) (wd_wi x, wd_k S') := (rc_Maker_become_ok n).2.2.2.2
theorem mx_86 : mi_mx tb_P 86 = 4 := rfl
noncomputable def fn_Maker_fill_105 (S : wd_S) : Option ((Unit ⊕ String) × wd_S) :=
  some (.inl (), S)
set_option maxRecDepth 100000 in
theorem sn_Maker_fill_105 {L : Nat} {xs : Nat → Int32} {S : wd_S} {x : Unit ⊕ String} {S' : wd_S} (h : fn_Maker_fill_105  S = some (x, S')) : go_r tb_P L xs 204 86 105 [] [] (wd_k S) (wd_wu x, wd_k S') := by
  unfold fn_Maker_fill_105 at h
  cases h
  exact bk_t tb_c_86_1 rfl rfl
noncomputable def fn_Maker_fill_46 : Nat → Int32 → wd_S → Option ((Unit ⊕ String) × wd_S)
  | 0, _, _ => none
  | n + 1, l3, S =>
    (if l3 < (78 : Int32) then
      (if tp_t (S.2.2.1 115 3) = (0, 9) then
        (wd_c (fn_Versions_count (S.2.2.1 115 3) S) fun x23 S22 =>
        (if l3 < x23 then
          (wd_d (fn_Maker_bindParams l3 S22) fun S26 =>
          (if tp_t (S26.2.2.1 115 3) = (0, 9) then
            (wd_c (fn_Versions_bodies (S26.2.2.1 115 3) S26) fun x31 S30 => if tp_t x31 = (0, 0) then
              (if tp_t (S30.2.2.1 115 1) = (0, 0) then
                (if tp_t (S30.2.2.1 115 3) = (0, 9) then
                  (wd_c (fn_Versions_functionOf (S30.2.2.1 115 3) l3 S30) fun x37 S36 =>
                  (wd_c (fn_Bodies_root (S30.2.2.1 115 1) x37 S36) fun x40 S39 =>
                  (wd_c (rc_Maker_become 200 93 x40 (0 : Int32) S39) fun x43o S42 => wd_o x43o (fun x43 =>
                  (wd_d (fn_Bodies_setRoot x31 l3 x43 S42) fun S46 =>
                  fn_Maker_fill_46 n (l3 + (1 : Int32)) S46)) (fun E45 => some (.inr E45, S42)))))
                else none)
              else none)
            else none)
          else none))
        else
          fn_Maker_fill_105  S22))
      else none)
    else
      fn_Maker_fill_105  S)
set_option maxRecDepth 100000 in
theorem sn_Maker_fill_46 {L : Nat} {xs : Nat → Int32} : ∀ (n : Nat) {l3 : Int32} {S : wd_S} {x : Unit ⊕ String} {S' : wd_S}, fn_Maker_fill_46 n l3 S = some (x, S') → go_r tb_P L xs 204 86 46 [(0, .ref 115), (3, .int l3)] [] (wd_k S) (wd_wu x, wd_k S') := by
  intro n
  induction n with
  | zero => intro l3 S x S'  h; cases h
  | succ n ih =>
    intro l3 S x S'  h
    rw [fn_Maker_fill_46] at h
    refine bk_b (q := (49, [(0, .ref 115), (3, .int l3)], [.int (78 : Int32), .int l3])) tb_c_86_0 mx_86 2 rfl ?_
    by_cases g20 : l3 < (78 : Int32)
    · rw [if_pos g20] at h
      refine bk_jf tb_c_86_0 rfl (pc' := 52) rfl (t := 105) rfl (cm_ge_f g20) ?_
      refine bk_b (q := (54, [(0, .ref 115), (3, .int l3)], [.ref 115, .int l3])) tb_c_86_0 mx_86 2 rfl ?_
      refine bk_gm tb_c_86_0 rfl rfl (ci := 2) (k := 3) rfl rfl rfl ?_
      by_cases g21 : tp_t (S.2.2.1 115 3) = (0, 9)
      · rw [if_pos g21] at h
        obtain ⟨x23, S22, c24, h⟩ := wd_cx h
        refine bk_kv tb_c_86_0 rfl rfl rfl rfl rfl (ci := 9) g21 rfl (ev_up (Nat.le_of_ble_eq_true rfl) (sn_Versions_count g21 c24)) ?_
        by_cases g25 : l3 < x23
        · rw [if_pos g25] at h
          refine bk_jf tb_c_86_0 rfl (pc' := 63) rfl (t := 105) rfl (cm_ge_f g25) ?_
          refine bk_b (q := (65, [(0, .ref 115), (3, .int l3)], [.int l3, .ref 115])) tb_c_86_0 mx_86 2 rfl ?_
          obtain ⟨S26, c28, h⟩ := wd_dx h
          refine bk_kv tb_c_86_0 rfl rfl rfl rfl rfl (ci := 2) rfl rfl (ev_up (Nat.le_of_ble_eq_true rfl) (sn_Maker_bindParams c28)) ?_
          refine bk_b (q := (69, [(0, .ref 115), (3, .int l3)], [.ref 115])) tb_c_86_0 mx_86 1 rfl ?_
          refine bk_gm tb_c_86_0 rfl rfl (ci := 2) (k := 3) rfl rfl rfl ?_
          by_cases g29 : tp_t (S26.2.2.1 115 3) = (0, 9)
          · rw [if_pos g29] at h
            obtain ⟨x31, S30, c32, h⟩ := wd_cx h
            by_cases g33 : tp_t x31 = (0, 0)
            · rw [if_pos g33] at h
              refine bk_kv tb_c_86_0 rfl rfl rfl rfl rfl (ci := 9) g29 rfl (ev_up (Nat.le_of_ble_eq_true rfl) (sn_Versions_bodies g29 c32)) ?_
              refine bk_b (q := (78, [(0, .ref 115), (3, .int l3)], [.ref 115, .ref 115, .int l3, .ref x31])) tb_c_86_1 mx_86 3 rfl ?_
              refine bk_gm tb_c_86_1 rfl rfl (ci := 2) (k := 1) rfl rfl rfl ?_
              by_cases g34 : tp_t (S30.2.2.1 115 1) = (0, 0)
              · rw [if_pos g34] at h
                refine bk_b (q := (82, [(0, .ref 115), (3, .int l3)], [.ref 115, .ref (S30.2.2.1 115 1), .ref 115, .int l3, .ref x31])) tb_c_86_1 mx_86 1 rfl ?_
                refine bk_gm tb_c_86_1 rfl rfl (ci := 2) (k := 3) rfl rfl rfl ?_
                by_cases g35 : tp_t (S30.2.2.1 115 3) = (0, 9)
                · rw [if_pos g35] at h
                  refine bk_b (q := (86, [(0, .ref 115), (3, .int l3)], [.int l3, .ref (S30.2.2.1 115 3), .ref (S30.2.2.1 115 1), .ref 115, .int l3, .ref x31])) tb_c_86_1 mx_86 1 rfl ?_
                  obtain ⟨x37, S36, c38, h⟩ := wd_cx h
                  refine bk_kv tb_c_86_1 rfl rfl rfl rfl rfl (ci := 9) g35 rfl (ev_up (Nat.le_of_ble_eq_true rfl) (sn_Versions_functionOf g35 c38)) ?_
                  obtain ⟨x40, S39, c41, h⟩ := wd_cx h
                  refine bk_kv tb_c_86_1 rfl rfl rfl rfl rfl (ci := 0) g34 rfl (ev_up (Nat.le_of_ble_eq_true rfl) (sn_Bodies_root g34 c41)) ?_
                  refine bk_b (q := (93, [(0, .ref 115), (3, .int l3)], [.int (0 : Int32), .int x40, .ref 115, .int l3, .ref x31])) tb_c_86_1 mx_86 1 rfl ?_
                  obtain ⟨x43o, S42, c44, h⟩ := wd_cx h
                  rcases wd_ox h with ⟨x43, rfl, nx43⟩ | ⟨E45, rfl, nx43⟩
                  · replace h := nx43
                    refine bk_kv tb_c_86_1 rfl rfl rfl rfl rfl (ci := 2) rfl rfl (ev_up (Nat.le_of_ble_eq_true rfl) (rc_Maker_become_93 200 c44)) ?_
                    obtain ⟨S46, c48, h⟩ := wd_dx h
                    refine bk_kv tb_c_86_1 rfl rfl rfl rfl rfl (ci := 0) g33 rfl (ev_up (Nat.le_of_ble_eq_true rfl) (sn_Bodies_setRoot g33 c48)) ?_
                    refine bk_b (q := (46, [(3, .int (l3 + (1 : Int32))), (0, .ref 115)], [])) tb_c_86_1 mx_86 2 rfl ?_
                    exact go_lv (ls_sc rfl rfl (ls_sc rfl rfl ls_nil)) (ih h)
                  · replace h := nx43
                    cases h
                    exact bk_kp tb_c_86_1 rfl rfl rfl rfl rfl (ci := 2) rfl rfl (ev_up (Nat.le_of_ble_eq_true rfl) (rc_Maker_become_93 200 c44)) rfl rfl
                · rw [if_neg g35] at h; cases h
              · rw [if_neg g34] at h; cases h
            · rw [if_neg g33] at h; cases h
          · rw [if_neg g29] at h; cases h
        · rw [if_neg g25] at h
          refine bk_jt tb_c_86_0 rfl (pc' := 105) rfl (cm_ge_t g25) ?_
          exact go_lv ls_nil (sn_Maker_fill_105 h)
      · rw [if_neg g21] at h; cases h
    · rw [if_neg g20] at h
      refine bk_jt tb_c_86_0 rfl (pc' := 105) rfl (cm_ge_t g20) ?_
      exact go_lv ls_nil (sn_Maker_fill_105 h)
/-- Specialiser$Maker.fill(LSpecialiser$Bodies;LSpecialiser$Versions;)V -/
noncomputable def fn_Maker_fill (p1 : Nat) (p2 : Nat) (S : wd_S) : Option ((Unit ⊕ String) × wd_S) :=
  (wd_b (wd_r S 115 1 p1) fun S1 =>
  (wd_c (fn_Bodies_trees p1 S1) fun x3 S2 => if tp_t x3 = (0, 8) then
    (wd_b (wd_r S2 115 2 x3) fun S6 =>
    (wd_b (wd_r S6 115 3 p2) fun S7 =>
    (wd_c (fn_Versions_bodies p2 S7) fun x9 S8 => if tp_t x9 = (0, 0) then
      (wd_c (fn_Bodies_trees x9 S8) fun x13 S12 => if tp_t x13 = (0, 8) then
        (wd_b (wd_r S12 115 4 x13) fun S16 =>
        (wd_b (wd_i S16 115 8 (0 : Int32)) fun S17 =>
        (wd_b (wd_i S17 115 9 (0 : Int32)) fun S18 =>
        (wd_b (wd_i S18 115 10 (0 : Int32)) fun S19 =>
        fn_Maker_fill_46 wd_F (0 : Int32) S19))))
      else none)
    else none)))
  else none))
set_option maxRecDepth 100000 in
theorem sn_Maker_fill {L : Nat} {xs : Nat → Int32} {p1 : Nat} {p2 : Nat} {S : wd_S} {x : Unit ⊕ String} {S' : wd_S} (hp1 : tp_t p1 = (0, 0)) (hp2 : tp_t p2 = (0, 9)) (h : fn_Maker_fill p1 p2 S = some (x, S')) : ev_r tb_P L xs (204 + 1) 86 [.ref 115, .ref p1, .ref p2] (wd_k S) (wd_wu x, wd_k S') := by
  unfold fn_Maker_fill at h
  refine ev_of (Nat.le_of_ble_eq_true rfl) ?_
  show go_r tb_P L xs 204 86 0 [(0, .ref 115), (1, .ref p1), (2, .ref p2)] [] (wd_k S) (wd_wu x, wd_k S')
  refine bk_b (q := (2, [(0, .ref 115), (1, .ref p1), (2, .ref p2)], [.ref p1, .ref 115])) tb_c_86_0 mx_86 2 rfl ?_
  obtain ⟨S1, eS1, h⟩ := wd_bx h
  refine bk_pr tb_c_86_0 rfl rfl (ci := 2) (k := 1) rfl rfl rfl rfl ?_
  rw [eS1]
  refine bk_b (q := (7, [(0, .ref 115), (1, .ref p1), (2, .ref p2)], [.ref p1, .ref 115])) tb_c_86_0 mx_86 2 rfl ?_
  obtain ⟨x3, S2, c4, h⟩ := wd_cx h
  by_cases g5 : tp_t x3 = (0, 8)
  · rw [if_pos g5] at h
    refine bk_kv tb_c_86_0 rfl rfl rfl rfl rfl (ci := 0) hp1 rfl (ev_up (Nat.le_of_ble_eq_true rfl) (sn_Bodies_trees hp1 c4)) ?_
    obtain ⟨S6, eS6, h⟩ := wd_bx h
    refine bk_pr tb_c_86_0 rfl rfl (ci := 2) (k := 2) rfl rfl rfl rfl ?_
    rw [eS6]
    refine bk_b (q := (15, [(0, .ref 115), (1, .ref p1), (2, .ref p2)], [.ref p2, .ref 115])) tb_c_86_0 mx_86 2 rfl ?_
    obtain ⟨S7, eS7, h⟩ := wd_bx h
    refine bk_pr tb_c_86_0 rfl rfl (ci := 2) (k := 3) rfl rfl rfl rfl ?_
    rw [eS7]
    refine bk_b (q := (20, [(0, .ref 115), (1, .ref p1), (2, .ref p2)], [.ref p2, .ref 115])) tb_c_86_0 mx_86 2 rfl ?_
    obtain ⟨x9, S8, c10, h⟩ := wd_cx h
    by_cases g11 : tp_t x9 = (0, 0)
    · rw [if_pos g11] at h
      refine bk_kv tb_c_86_0 rfl rfl rfl rfl rfl (ci := 9) hp2 rfl (ev_up (Nat.le_of_ble_eq_true rfl) (sn_Versions_bodies hp2 c10)) ?_
      obtain ⟨x13, S12, c14, h⟩ := wd_cx h
      by_cases g15 : tp_t x13 = (0, 8)
      · rw [if_pos g15] at h
        refine bk_kv tb_c_86_0 rfl rfl rfl rfl rfl (ci := 0) g11 rfl (ev_up (Nat.le_of_ble_eq_true rfl) (sn_Bodies_trees g11 c14)) ?_
        obtain ⟨S16, eS16, h⟩ := wd_bx h
        refine bk_pr tb_c_86_0 rfl rfl (ci := 2) (k := 4) rfl rfl rfl rfl ?_
        rw [eS16]
        refine bk_b (q := (31, [(0, .ref 115), (1, .ref p1), (2, .ref p2)], [.int (0 : Int32), .ref 115])) tb_c_86_0 mx_86 2 rfl ?_
        obtain ⟨S17, eS17, h⟩ := wd_bx h
        refine bk_pi tb_c_86_0 rfl rfl (ci := 2) (k := 8) rfl rfl rfl rfl ?_
        rw [eS17]
        refine bk_b (q := (36, [(0, .ref 115), (1, .ref p1), (2, .ref p2)], [.int (0 : Int32), .ref 115])) tb_c_86_0 mx_86 2 rfl ?_
        obtain ⟨S18, eS18, h⟩ := wd_bx h
        refine bk_pi tb_c_86_0 rfl rfl (ci := 2) (k := 9) rfl rfl rfl rfl ?_
        rw [eS18]
        refine bk_b (q := (41, [(0, .ref 115), (1, .ref p1), (2, .ref p2)], [.int (0 : Int32), .ref 115])) tb_c_86_0 mx_86 2 rfl ?_
        obtain ⟨S19, eS19, h⟩ := wd_bx h
        refine bk_pi tb_c_86_0 rfl rfl (ci := 2) (k := 10) rfl rfl rfl rfl ?_
        rw [eS19]
        refine bk_b (q := (46, [(3, .int (0 : Int32)), (0, .ref 115), (1, .ref p1), (2, .ref p2)], [])) tb_c_86_0 mx_86 2 rfl ?_
        exact go_lv (ls_sc rfl rfl (ls_sc rfl rfl ls_nil)) (sn_Maker_fill_46 wd_F h)
      · rw [if_neg g15] at h; cases h
    · rw [if_neg g11] at h; cases h
  · rw [if_neg g5] at h; cases h
theorem mx_117 : mi_mx tb_P 117 = 3 := rfl
noncomputable def fn_Versions_expressions_4 : Nat → Nat → Int32 → Int32 → wd_S → Option (Int32 × wd_S)
  | 0, _, _, _, _ => none
  | n + 1, l0, l1, l2, S =>
    (wd_c (fn_Versions_count l0 S) fun x2 S1 =>
    (if l2 < x2 then
      (wd_c (fn_Bodies_expressions (l0 + 1) l2 S1) fun x6 S5 =>
      fn_Versions_expressions_4 n l0 (l1 + x6) (l2 + (1 : Int32)) S5)
    else
      some (l1, S1)))
set_option maxRecDepth 100000 in
theorem sn_Versions_expressions_4 {L : Nat} {xs : Nat → Int32} : ∀ (n : Nat) {l0 : Nat} {l1 : Int32} {l2 : Int32} {S : wd_S} {x : Int32} {S' : wd_S}, tp_t l0 = (0, 9) → fn_Versions_expressions_4 n l0 l1 l2 S = some (x, S') → go_r tb_P L xs 3 117 4 [(0, .ref l0), (1, .int l1), (2, .int l2)] [] (wd_k S) (.inl (some (.int x)), wd_k S') := by
  intro n
  induction n with
  | zero => intro l0 l1 l2 S x S' hl0 h; cases h
  | succ n ih =>
    intro l0 l1 l2 S x S' hl0 h
    rw [fn_Versions_expressions_4] at h
    refine bk_b (q := (6, [(0, .ref l0), (1, .int l1), (2, .int l2)], [.ref l0, .int l2])) tb_c_117_0 mx_117 2 rfl ?_
    obtain ⟨x2, S1, c3, h⟩ := wd_cx h
    refine bk_kv tb_c_117_0 rfl rfl rfl rfl rfl (ci := 9) hl0 rfl (ev_up (Nat.le_of_ble_eq_true rfl) (sn_Versions_count hl0 c3)) ?_
    by_cases g4 : l2 < x2
    · rw [if_pos g4] at h
      refine bk_jf tb_c_117_0 rfl (pc' := 12) rfl (t := 29) rfl (cm_ge_f g4) ?_
      refine bk_b (q := (14, [(0, .ref l0), (1, .int l1), (2, .int l2)], [.ref l0, .int l1])) tb_c_117_0 mx_117 2 rfl ?_
      refine bk_go tb_c_117_0 rfl rfl (ci := 9) (k := 0) rfl hl0 rfl ?_
      refine bk_b (q := (18, [(0, .ref l0), (1, .int l1), (2, .int l2)], [.int l2, .ref (l0 + 1), .int l1])) tb_c_117_0 mx_117 1 rfl ?_
      obtain ⟨x6, S5, c7, h⟩ := wd_cx h
      refine bk_kv tb_c_117_0 rfl rfl rfl rfl rfl (ci := 0) (tp_9_0 hl0) rfl (ev_up (Nat.le_of_ble_eq_true rfl) (sn_Bodies_expressions (tp_9_0 hl0) c7)) ?_
      refine bk_b (q := (4, [(2, .int (l2 + (1 : Int32))), (1, .int (l1 + x6)), (0, .ref l0)], [])) tb_c_117_0 mx_117 4 rfl ?_
      exact go_lv (ls_sc rfl rfl (ls_sc rfl rfl (ls_sc rfl rfl ls_nil))) (ih hl0 h)
    · rw [if_neg g4] at h
      refine bk_jt tb_c_117_0 rfl (pc' := 29) rfl (cm_ge_t g4) ?_
      refine bk_b (q := (30, [(0, .ref l0), (1, .int l1), (2, .int l2)], [.int l1])) tb_c_117_0 mx_117 1 rfl ?_
      cases h
      exact bk_t tb_c_117_0 rfl rfl
/-- Specialiser$Versions.expressions()I -/
noncomputable def fn_Versions_expressions (p0 : Nat) (S : wd_S) : Option (Int32 × wd_S) :=
  fn_Versions_expressions_4 wd_F p0 (0 : Int32) (0 : Int32) S
set_option maxRecDepth 100000 in
theorem sn_Versions_expressions {L : Nat} {xs : Nat → Int32} {p0 : Nat} {S : wd_S} {x : Int32} {S' : wd_S} (hp0 : tp_t p0 = (0, 9)) (h : fn_Versions_expressions p0 S = some (x, S')) : ev_r tb_P L xs (3 + 1) 117 [.ref p0] (wd_k S) (.inl (some (.int x)), wd_k S') := by
  unfold fn_Versions_expressions at h
  refine ev_of (Nat.le_of_ble_eq_true rfl) ?_
  show go_r tb_P L xs 3 117 0 [(0, .ref p0)] [] (wd_k S) (.inl (some (.int x)), wd_k S')
  refine bk_b (q := (4, [(2, .int (0 : Int32)), (1, .int (0 : Int32)), (0, .ref p0)], [])) tb_c_117_0 mx_117 4 rfl ?_
  exact go_lv (ls_sc rfl rfl (ls_sc rfl rfl (ls_sc rfl rfl ls_nil))) (sn_Versions_expressions_4 wd_F hp0 h)
theorem mx_118 : mi_mx tb_P 118 = 1 := rfl
/-- Specialiser$Maker.tried()I -/
noncomputable def fn_Maker_tried (S : wd_S) : Option (Int32 × wd_S) :=
  some (S.1 115 9, S)
set_option maxRecDepth 100000 in
theorem sn_Maker_tried {L : Nat} {xs : Nat → Int32} {S : wd_S} {x : Int32} {S' : wd_S} (h : fn_Maker_tried  S = some (x, S')) : ev_r tb_P L xs (0 + 1) 118 [.ref 115] (wd_k S) (.inl (some (.int x)), wd_k S') := by
  unfold fn_Maker_tried at h
  refine ev_of (Nat.le_of_ble_eq_true rfl) ?_
  show go_r tb_P L xs 0 118 0 [(0, .ref 115)] [] (wd_k S) (.inl (some (.int x)), wd_k S')
  refine bk_b (q := (1, [(0, .ref 115)], [.ref 115])) tb_c_118_0 mx_118 1 rfl ?_
  refine bk_gi tb_c_118_0 rfl rfl (ci := 2) (k := 9) rfl rfl rfl ?_
  cases h
  exact bk_t tb_c_118_0 rfl rfl
theorem mx_119 : mi_mx tb_P 119 = 1 := rfl
/-- Specialiser$Maker.triedWell()I -/
noncomputable def fn_Maker_triedWell (S : wd_S) : Option (Int32 × wd_S) :=
  some (S.1 115 10, S)
set_option maxRecDepth 100000 in
theorem sn_Maker_triedWell {L : Nat} {xs : Nat → Int32} {S : wd_S} {x : Int32} {S' : wd_S} (h : fn_Maker_triedWell  S = some (x, S')) : ev_r tb_P L xs (0 + 1) 119 [.ref 115] (wd_k S) (.inl (some (.int x)), wd_k S') := by
  unfold fn_Maker_triedWell at h
  refine ev_of (Nat.le_of_ble_eq_true rfl) ?_
  show go_r tb_P L xs 0 119 0 [(0, .ref 115)] [] (wd_k S) (.inl (some (.int x)), wd_k S')
  refine bk_b (q := (1, [(0, .ref 115)], [.ref 115])) tb_c_119_0 mx_119 1 rfl ?_
  refine bk_gi tb_c_119_0 rfl rfl (ci := 2) (k := 10) rfl rfl rfl ?_
  cases h
  exact bk_t tb_c_119_0 rfl rfl
theorem mx_120 : mi_mx tb_P 120 = 1 := rfl
/-- Specialiser$Maker.goneThrough()I -/
noncomputable def fn_Maker_goneThrough (S : wd_S) : Option (Int32 × wd_S) :=
  some (S.1 115 8, S)
set_option maxRecDepth 100000 in
theorem sn_Maker_goneThrough {L : Nat} {xs : Nat → Int32} {S : wd_S} {x : Int32} {S' : wd_S} (h : fn_Maker_goneThrough  S = some (x, S')) : ev_r tb_P L xs (0 + 1) 120 [.ref 115] (wd_k S) (.inl (some (.int x)), wd_k S') := by
  unfold fn_Maker_goneThrough at h
  refine ev_of (Nat.le_of_ble_eq_true rfl) ?_
  show go_r tb_P L xs 0 120 0 [(0, .ref 115)] [] (wd_k S) (.inl (some (.int x)), wd_k S')
  refine bk_b (q := (1, [(0, .ref 115)], [.ref 115])) tb_c_120_0 mx_120 1 rfl ?_
  refine bk_gi tb_c_120_0 rfl rfl (ci := 2) (k := 8) rfl rfl rfl ?_
  cases h
  exact bk_t tb_c_120_0 rfl rfl
theorem mx_116 : mi_mx tb_P 116 = 1 := rfl
/-- Specialiser.keepTold()V -/
noncomputable def fn_Sp_keepTold (S : wd_S) : Option wd_S :=
  (if tp_t (S.2.2.1 1 7) = (0, 9) then
    (wd_c (fn_Versions_count (S.2.2.1 1 7) S) fun x3 S2 =>
    (wd_d (fn_Row_put 124 (0 : Int32) x3 S2) fun S5 =>
    (if tp_t (S5.2.2.1 1 7) = (0, 9) then
      (wd_c (fn_Versions_expressions (S5.2.2.1 1 7) S5) fun x10 S9 =>
      (wd_d (fn_Row_put 124 (1 : Int32) x10 S9) fun S12 =>
      (wd_c (fn_Maker_tried  S12) fun x16 S15 =>
      (wd_d (fn_Row_put 124 (2 : Int32) x16 S15) fun S18 =>
      (wd_c (fn_Maker_triedWell  S18) fun x22 S21 =>
      (wd_d (fn_Row_put 124 (3 : Int32) x22 S21) fun S24 =>
      (wd_c (fn_Maker_goneThrough  S24) fun x28 S27 =>
      (wd_d (fn_Row_put 124 (4 : Int32) x28 S27) fun S30 =>
      some S30))))))))
    else none)))
  else none)
set_option maxRecDepth 100000 in
theorem sn_Sp_keepTold {L : Nat} {xs : Nat → Int32} {S : wd_S} {S' : wd_S} (h : fn_Sp_keepTold  S = some S') : ev_r tb_P L xs (4 + 1) 116 [.ref 1] (wd_k S) (.inl none, wd_k S') := by
  unfold fn_Sp_keepTold at h
  refine ev_of (Nat.le_of_ble_eq_true rfl) ?_
  show go_r tb_P L xs 4 116 0 [(0, .ref 1)] [] (wd_k S) (.inl none, wd_k S')
  refine bk_b (q := (1, [(0, .ref 1)], [.ref 1])) tb_c_116_0 mx_116 1 rfl ?_
  refine bk_gc tb_c_116_0 rfl rfl (ci := 10) (k := 13) rfl rfl rfl ?_
  refine bk_b (q := (6, [(0, .ref 1)], [.ref 1, .int (0 : Int32), .ref 124])) tb_c_116_0 mx_116 2 rfl ?_
  refine bk_gm tb_c_116_0 rfl rfl (ci := 10) (k := 7) rfl rfl rfl ?_
  by_cases g1 : tp_t (S.2.2.1 1 7) = (0, 9)
  · rw [if_pos g1] at h
    obtain ⟨x3, S2, c4, h⟩ := wd_cx h
    refine bk_kv tb_c_116_0 rfl rfl rfl rfl rfl (ci := 9) g1 rfl (ev_up (Nat.le_of_ble_eq_true rfl) (sn_Versions_count g1 c4)) ?_
    obtain ⟨S5, c7, h⟩ := wd_dx h
    refine bk_kv tb_c_116_0 rfl rfl rfl rfl rfl (ci := 5) rfl rfl (ev_up (Nat.le_of_ble_eq_true rfl) (sn_Row_put rfl c7)) ?_
    refine bk_b (q := (16, [(0, .ref 1)], [.ref 1])) tb_c_116_0 mx_116 1 rfl ?_
    refine bk_gc tb_c_116_0 rfl rfl (ci := 10) (k := 13) rfl rfl rfl ?_
    refine bk_b (q := (21, [(0, .ref 1)], [.ref 1, .int (1 : Int32), .ref 124])) tb_c_116_0 mx_116 2 rfl ?_
    refine bk_gm tb_c_116_0 rfl rfl (ci := 10) (k := 7) rfl rfl rfl ?_
    by_cases g8 : tp_t (S5.2.2.1 1 7) = (0, 9)
    · rw [if_pos g8] at h
      obtain ⟨x10, S9, c11, h⟩ := wd_cx h
      refine bk_kv tb_c_116_0 rfl rfl rfl rfl rfl (ci := 9) g8 rfl (ev_up (Nat.le_of_ble_eq_true rfl) (sn_Versions_expressions g8 c11)) ?_
      obtain ⟨S12, c14, h⟩ := wd_dx h
      refine bk_kv tb_c_116_0 rfl rfl rfl rfl rfl (ci := 5) rfl rfl (ev_up (Nat.le_of_ble_eq_true rfl) (sn_Row_put rfl c14)) ?_
      refine bk_b (q := (31, [(0, .ref 1)], [.ref 1])) tb_c_116_0 mx_116 1 rfl ?_
      refine bk_gc tb_c_116_0 rfl rfl (ci := 10) (k := 13) rfl rfl rfl ?_
      refine bk_b (q := (36, [(0, .ref 1)], [.ref 1, .int (2 : Int32), .ref 124])) tb_c_116_0 mx_116 2 rfl ?_
      refine bk_gc tb_c_116_0 rfl rfl (ci := 10) (k := 10) rfl rfl rfl ?_
      obtain ⟨x16, S15, c17, h⟩ := wd_cx h
      refine bk_kv tb_c_116_0 rfl rfl rfl rfl rfl (ci := 2) rfl rfl (ev_up (Nat.le_of_ble_eq_true rfl) (sn_Maker_tried c17)) ?_
      obtain ⟨S18, c20, h⟩ := wd_dx h
      refine bk_kv tb_c_116_0 rfl rfl rfl rfl rfl (ci := 5) rfl rfl (ev_up (Nat.le_of_ble_eq_true rfl) (sn_Row_put rfl c20)) ?_
      refine bk_b (q := (46, [(0, .ref 1)], [.ref 1])) tb_c_116_0 mx_116 1 rfl ?_
      refine bk_gc tb_c_116_0 rfl rfl (ci := 10) (k := 13) rfl rfl rfl ?_
      refine bk_b (q := (51, [(0, .ref 1)], [.ref 1, .int (3 : Int32), .ref 124])) tb_c_116_0 mx_116 2 rfl ?_
      refine bk_gc tb_c_116_0 rfl rfl (ci := 10) (k := 10) rfl rfl rfl ?_
      obtain ⟨x22, S21, c23, h⟩ := wd_cx h
      refine bk_kv tb_c_116_0 rfl rfl rfl rfl rfl (ci := 2) rfl rfl (ev_up (Nat.le_of_ble_eq_true rfl) (sn_Maker_triedWell c23)) ?_
      obtain ⟨S24, c26, h⟩ := wd_dx h
      refine bk_kv tb_c_116_0 rfl rfl rfl rfl rfl (ci := 5) rfl rfl (ev_up (Nat.le_of_ble_eq_true rfl) (sn_Row_put rfl c26)) ?_
      refine bk_b (q := (61, [(0, .ref 1)], [.ref 1])) tb_c_116_0 mx_116 1 rfl ?_
      refine bk_gc tb_c_116_0 rfl rfl (ci := 10) (k := 13) rfl rfl rfl ?_
      refine bk_b (q := (66, [(0, .ref 1)], [.ref 1, .int (4 : Int32), .ref 124])) tb_c_116_0 mx_116 2 rfl ?_
      refine bk_gc tb_c_116_0 rfl rfl (ci := 10) (k := 10) rfl rfl rfl ?_
      obtain ⟨x28, S27, c29, h⟩ := wd_cx h
      refine bk_kv tb_c_116_0 rfl rfl rfl rfl rfl (ci := 2) rfl rfl (ev_up (Nat.le_of_ble_eq_true rfl) (sn_Maker_goneThrough c29)) ?_
      obtain ⟨S30, c32, h⟩ := wd_dx h
      refine bk_kv tb_c_116_0 rfl rfl rfl rfl rfl (ci := 5) rfl rfl (ev_up (Nat.le_of_ble_eq_true rfl) (sn_Row_put rfl c32)) ?_
      cases h
      exact bk_t tb_c_116_0 rfl rfl
    · rw [if_neg g8] at h; cases h
  · rw [if_neg g1] at h; cases h
theorem mx_82 : mi_mx tb_P 82 = 3 := rfl
/-- Specialiser.make(I)I -/
noncomputable def fn_Sp_make (p1 : Int32) (S : wd_S) : Option ((Int32 ⊕ String) × wd_S) :=
  (if tp_t (S.2.2.1 1 5) = (0, 0) then
    (wd_c (fn_Bodies_count (S.2.2.1 1 5) S) fun x3 S2 =>
    (if x3 = 0 then
      some (.inr "java/lang/IllegalStateException", wd_n S2)
    else
      (if tp_t (S2.2.2.1 1 5) = (0, 0) then
        (wd_c (fn_Bodies_has (S2.2.2.1 1 5) p1 S2) fun x8 S7 =>
        (if x8 = 0 then
          some (.inr "java/lang/IndexOutOfBoundsException", wd_n S7)
        else
          (if tp_t (S7.2.2.1 1 8) = (0, 9) then
            (wd_d (fn_Versions_clear (S7.2.2.1 1 8) S7) fun S12 =>
            (if tp_t (S12.2.2.1 1 8) = (0, 9) then
              (if tp_t (S12.2.2.1 1 5) = (0, 0) then
                (wd_c (fn_Bodies_paramMask (S12.2.2.1 1 5) p1 S12) fun x18 S17 =>
                (if tp_t (S17.2.2.1 1 5) = (0, 0) then
                  (wd_c (fn_Bodies_params (S17.2.2.1 1 5) p1 S17) fun x22 S21 =>
                  (wd_c (fn_Versions_add (S12.2.2.1 1 8) p1 ((S12.1 1 12) &&& x18) 122 x22 S21) fun x25 S24 =>
                  (if tp_t (S24.2.2.1 1 5) = (0, 0) then
                    (if tp_t (S24.2.2.1 1 8) = (0, 9) then
                      (wd_c (fn_Maker_fill (S24.2.2.1 1 5) (S24.2.2.1 1 8) S24) fun x30o S29 => wd_o x30o (fun x30 =>
                      (if tp_t (S29.2.2.1 1 7) = (0, 9) then
                        (if tp_t (S29.2.2.1 1 8) = (0, 9) then
                          (wd_b (wd_r S29 1 7 (S29.2.2.1 1 8)) fun S35 =>
                          (wd_b (wd_r S35 1 8 (S29.2.2.1 1 7)) fun S36 =>
                          (wd_b (wd_i S36 1 12 (0 : Int32)) fun S37 =>
                          (wd_d (fn_Sp_keepTold  S37) fun S38 =>
                          (if tp_t (S38.2.2.1 1 7) = (0, 9) then
                            (wd_c (fn_Versions_count (S38.2.2.1 1 7) S38) fun x43 S42 =>
                            some (.inl x43, S42))
                          else none)))))
                        else none)
                      else none)) (fun E32 => some (.inr E32, S29)))
                    else none)
                  else none)))
                else none))
              else none)
            else none))
          else none)))
      else none)))
  else none)
set_option maxRecDepth 100000 in
theorem sn_Sp_make {L : Nat} {xs : Nat → Int32} {p1 : Int32} {S : wd_S} {x : Int32 ⊕ String} {S' : wd_S} (h : fn_Sp_make p1 S = some (x, S')) : ev_r tb_P L xs (205 + 1) 82 [.ref 1, .int p1] (wd_k S) (wd_wi x, wd_k S') := by
  unfold fn_Sp_make at h
  refine ev_of (Nat.le_of_ble_eq_true rfl) ?_
  show go_r tb_P L xs 205 82 0 [(0, .ref 1), (1, .int p1)] [] (wd_k S) (wd_wi x, wd_k S')
  refine bk_b (q := (1, [(0, .ref 1), (1, .int p1)], [.ref 1])) tb_c_82_0 mx_82 1 rfl ?_
  refine bk_gm tb_c_82_0 rfl rfl (ci := 10) (k := 5) rfl rfl rfl ?_
  by_cases g1 : tp_t (S.2.2.1 1 5) = (0, 0)
  · rw [if_pos g1] at h
    obtain ⟨x3, S2, c4, h⟩ := wd_cx h
    refine bk_kv tb_c_82_0 rfl rfl rfl rfl rfl (ci := 0) g1 rfl (ev_up (Nat.le_of_ble_eq_true rfl) (sn_Bodies_count g1 c4)) ?_
    by_cases g5 : x3 = 0
    · rw [if_pos g5] at h
      refine bk_zf tb_c_82_0 rfl (pc' := 10) rfl (t := 20) rfl (cm_ne_f g5) ?_
      cases h
      exact bk_x rfl
    · rw [if_neg g5] at h
      refine bk_zt tb_c_82_0 rfl (pc' := 20) rfl (cm_ne_t g5) ?_
      refine bk_b (q := (21, [(0, .ref 1), (1, .int p1)], [.ref 1])) tb_c_82_0 mx_82 1 rfl ?_
      refine bk_gm tb_c_82_0 rfl rfl (ci := 10) (k := 5) rfl rfl rfl ?_
      by_cases g6 : tp_t (S2.2.2.1 1 5) = (0, 0)
      · rw [if_pos g6] at h
        refine bk_b (q := (25, [(0, .ref 1), (1, .int p1)], [.int p1, .ref (S2.2.2.1 1 5)])) tb_c_82_0 mx_82 1 rfl ?_
        obtain ⟨x8, S7, c9, h⟩ := wd_cx h
        refine bk_kv tb_c_82_0 rfl rfl rfl rfl rfl (ci := 0) g6 rfl (ev_up (Nat.le_of_ble_eq_true rfl) (sn_Bodies_has g6 c9)) ?_
        by_cases g10 : x8 = 0
        · rw [if_pos g10] at h
          refine bk_zf tb_c_82_0 rfl (pc' := 31) rfl (t := 41) rfl (cm_ne_f g10) ?_
          cases h
          exact bk_x rfl
        · rw [if_neg g10] at h
          refine bk_zt tb_c_82_0 rfl (pc' := 41) rfl (cm_ne_t g10) ?_
          refine bk_b (q := (42, [(0, .ref 1), (1, .int p1)], [.ref 1])) tb_c_82_0 mx_82 1 rfl ?_
          refine bk_gm tb_c_82_0 rfl rfl (ci := 10) (k := 8) rfl rfl rfl ?_
          by_cases g11 : tp_t (S7.2.2.1 1 8) = (0, 9)
          · rw [if_pos g11] at h
            obtain ⟨S12, c14, h⟩ := wd_dx h
            refine bk_kv tb_c_82_0 rfl rfl rfl rfl rfl (ci := 9) g11 rfl (ev_up (Nat.le_of_ble_eq_true rfl) (sn_Versions_clear g11 c14)) ?_
            refine bk_b (q := (49, [(0, .ref 1), (1, .int p1)], [.ref 1])) tb_c_82_0 mx_82 1 rfl ?_
            refine bk_gm tb_c_82_0 rfl rfl (ci := 10) (k := 8) rfl rfl rfl ?_
            by_cases g15 : tp_t (S12.2.2.1 1 8) = (0, 9)
            · rw [if_pos g15] at h
              refine bk_b (q := (54, [(0, .ref 1), (1, .int p1)], [.ref 1, .int p1, .ref (S12.2.2.1 1 8)])) tb_c_82_0 mx_82 2 rfl ?_
              refine bk_gi tb_c_82_0 rfl rfl (ci := 10) (k := 12) rfl rfl rfl ?_
              refine bk_b (q := (58, [(0, .ref 1), (1, .int p1)], [.ref 1, .int (S12.1 1 12), .int p1, .ref (S12.2.2.1 1 8)])) tb_c_82_0 mx_82 1 rfl ?_
              refine bk_gm tb_c_82_0 rfl rfl (ci := 10) (k := 5) rfl rfl rfl ?_
              by_cases g16 : tp_t (S12.2.2.1 1 5) = (0, 0)
              · rw [if_pos g16] at h
                refine bk_b (q := (62, [(0, .ref 1), (1, .int p1)], [.int p1, .ref (S12.2.2.1 1 5), .int (S12.1 1 12), .int p1, .ref (S12.2.2.1 1 8)])) tb_c_82_0 mx_82 1 rfl ?_
                obtain ⟨x18, S17, c19, h⟩ := wd_cx h
                refine bk_kv tb_c_82_0 rfl rfl rfl rfl rfl (ci := 0) g16 rfl (ev_up (Nat.le_of_ble_eq_true rfl) (sn_Bodies_paramMask g16 c19)) ?_
                refine bk_b (q := (67, [(0, .ref 1), (1, .int p1)], [.ref 1, .int ((S12.1 1 12) &&& x18), .int p1, .ref (S12.2.2.1 1 8)])) tb_c_82_0 mx_82 2 rfl ?_
                refine bk_gc tb_c_82_0 rfl rfl (ci := 10) (k := 11) rfl rfl rfl ?_
                refine bk_b (q := (71, [(0, .ref 1), (1, .int p1)], [.ref 1, .ref 122, .int ((S12.1 1 12) &&& x18), .int p1, .ref (S12.2.2.1 1 8)])) tb_c_82_0 mx_82 1 rfl ?_
                refine bk_gm tb_c_82_0 rfl rfl (ci := 10) (k := 5) rfl rfl rfl ?_
                by_cases g20 : tp_t (S17.2.2.1 1 5) = (0, 0)
                · rw [if_pos g20] at h
                  refine bk_b (q := (75, [(0, .ref 1), (1, .int p1)], [.int p1, .ref (S17.2.2.1 1 5), .ref 122, .int ((S12.1 1 12) &&& x18), .int p1, .ref (S12.2.2.1 1 8)])) tb_c_82_0 mx_82 1 rfl ?_
                  obtain ⟨x22, S21, c23, h⟩ := wd_cx h
                  refine bk_kv tb_c_82_0 rfl rfl rfl rfl rfl (ci := 0) g20 rfl (ev_up (Nat.le_of_ble_eq_true rfl) (sn_Bodies_params g20 c23)) ?_
                  obtain ⟨x25, S24, c26, h⟩ := wd_cx h
                  refine bk_kv tb_c_82_0 rfl rfl rfl rfl rfl (ci := 9) g15 rfl (ev_up (Nat.le_of_ble_eq_true rfl) (sn_Versions_add g15 rfl c26)) ?_
                  refine bk_b (q := (83, [(0, .ref 1), (1, .int p1)], [.ref 1])) tb_c_82_0 mx_82 2 rfl ?_
                  refine bk_gc tb_c_82_0 rfl rfl (ci := 10) (k := 10) rfl rfl rfl ?_
                  refine bk_b (q := (87, [(0, .ref 1), (1, .int p1)], [.ref 1, .ref 115])) tb_c_82_0 mx_82 1 rfl ?_
                  refine bk_gm tb_c_82_0 rfl rfl (ci := 10) (k := 5) rfl rfl rfl ?_
                  by_cases g27 : tp_t (S24.2.2.1 1 5) = (0, 0)
                  · rw [if_pos g27] at h
                    refine bk_b (q := (91, [(0, .ref 1), (1, .int p1)], [.ref 1, .ref (S24.2.2.1 1 5), .ref 115])) tb_c_82_0 mx_82 1 rfl ?_
                    refine bk_gm tb_c_82_0 rfl rfl (ci := 10) (k := 8) rfl rfl rfl ?_
                    by_cases g28 : tp_t (S24.2.2.1 1 8) = (0, 9)
                    · rw [if_pos g28] at h
                      obtain ⟨x30o, S29, c31, h⟩ := wd_cx h
                      rcases wd_ox h with ⟨x30, rfl, nx30⟩ | ⟨E32, rfl, nx30⟩
                      · replace h := nx30
                        refine bk_kv tb_c_82_0 rfl rfl rfl rfl rfl (ci := 2) rfl rfl (ev_up (Nat.le_of_ble_eq_true rfl) (sn_Maker_fill g27 g28 c31)) ?_
                        refine bk_b (q := (98, [(0, .ref 1), (1, .int p1)], [.ref 1])) tb_c_82_0 mx_82 1 rfl ?_
                        refine bk_gm tb_c_82_0 rfl rfl (ci := 10) (k := 7) rfl rfl rfl ?_
                        by_cases g33 : tp_t (S29.2.2.1 1 7) = (0, 9)
                        · rw [if_pos g33] at h
                          refine bk_b (q := (102, [(2, .ref (S29.2.2.1 1 7)), (0, .ref 1), (1, .int p1)], [])) tb_c_82_0 mx_82 1 rfl ?_
                          refine bk_b (q := (104, [(2, .ref (S29.2.2.1 1 7)), (0, .ref 1), (1, .int p1)], [.ref 1, .ref 1])) tb_c_82_1 mx_82 2 rfl ?_
                          refine bk_gm tb_c_82_1 rfl rfl (ci := 10) (k := 8) rfl rfl rfl ?_
                          by_cases g34 : tp_t (S29.2.2.1 1 8) = (0, 9)
                          · rw [if_pos g34] at h
                            obtain ⟨S35, eS35, h⟩ := wd_bx h
                            refine bk_pr tb_c_82_1 rfl rfl (ci := 10) (k := 7) rfl rfl rfl rfl ?_
                            rw [eS35]
                            refine bk_b (q := (112, [(2, .ref (S29.2.2.1 1 7)), (0, .ref 1), (1, .int p1)], [.ref (S29.2.2.1 1 7), .ref 1])) tb_c_82_1 mx_82 2 rfl ?_
                            obtain ⟨S36, eS36, h⟩ := wd_bx h
                            refine bk_pr tb_c_82_1 rfl rfl (ci := 10) (k := 8) rfl rfl rfl rfl ?_
                            rw [eS36]
                            refine bk_b (q := (117, [(2, .ref (S29.2.2.1 1 7)), (0, .ref 1), (1, .int p1)], [.int (0 : Int32), .ref 1])) tb_c_82_1 mx_82 2 rfl ?_
                            obtain ⟨S37, eS37, h⟩ := wd_bx h
                            refine bk_pi tb_c_82_1 rfl rfl (ci := 10) (k := 12) rfl rfl rfl rfl ?_
                            rw [eS37]
                            refine bk_b (q := (121, [(2, .ref (S29.2.2.1 1 7)), (0, .ref 1), (1, .int p1)], [.ref 1])) tb_c_82_1 mx_82 1 rfl ?_
                            obtain ⟨S38, c40, h⟩ := wd_dx h
                            refine bk_kv tb_c_82_1 rfl rfl rfl rfl rfl (ci := 10) rfl rfl (ev_up (Nat.le_of_ble_eq_true rfl) (sn_Sp_keepTold c40)) ?_
                            refine bk_b (q := (125, [(2, .ref (S29.2.2.1 1 7)), (0, .ref 1), (1, .int p1)], [.ref 1])) tb_c_82_1 mx_82 1 rfl ?_
                            refine bk_gm tb_c_82_1 rfl rfl (ci := 10) (k := 7) rfl rfl rfl ?_
                            by_cases g41 : tp_t (S38.2.2.1 1 7) = (0, 9)
                            · rw [if_pos g41] at h
                              obtain ⟨x43, S42, c44, h⟩ := wd_cx h
                              refine bk_kv tb_c_82_1 rfl rfl rfl rfl rfl (ci := 9) g41 rfl (ev_up (Nat.le_of_ble_eq_true rfl) (sn_Versions_count g41 c44)) ?_
                              cases h
                              exact bk_t tb_c_82_1 rfl rfl
                            · rw [if_neg g41] at h; cases h
                          · rw [if_neg g34] at h; cases h
                        · rw [if_neg g33] at h; cases h
                      · replace h := nx30
                        cases h
                        exact bk_kp tb_c_82_0 rfl rfl rfl rfl rfl (ci := 2) rfl rfl (ev_up (Nat.le_of_ble_eq_true rfl) (sn_Maker_fill g27 g28 c31)) rfl rfl
                    · rw [if_neg g28] at h; cases h
                  · rw [if_neg g27] at h; cases h
                · rw [if_neg g20] at h; cases h
              · rw [if_neg g16] at h; cases h
            · rw [if_neg g15] at h; cases h
          · rw [if_neg g11] at h; cases h
      · rw [if_neg g6] at h; cases h
  · rw [if_neg g1] at h; cases h
