/-! Methods as functions: printed by wip/whole/gen_fn.py. -/
theorem mx_55 : mi_mx tb_P 55 = 3 := rfl
noncomputable def fn_Reader_nameAlone_38 (l2 : Int32) (S : wd_S) : Option (Int32 × wd_S) :=
  (if tp_t (S.2.2.1 47 2) = (0, 8) then
    (wd_c (fn_Row_at 52 l2 S) fun x10 S9 =>
    (wd_c (fn_Trees_open (S.2.2.1 47 2) (2 : Int32) x10 S9) fun x13 S12 =>
    some (x13, S12)))
  else none)
set_option maxRecDepth 100000 in
theorem sn_Reader_nameAlone_38 {L : Nat} {xs : Nat → Int32} {l2 : Int32} {S : wd_S} {x : Int32} {S' : wd_S} (h : fn_Reader_nameAlone_38 l2 S = some (x, S')) : go_r tb_P L xs 2 55 38 [(0, .ref 47), (2, .int l2)] [] (wd_k S) (.inl (some (.int x)), wd_k S') := by
  unfold fn_Reader_nameAlone_38 at h
  refine bk_b (q := (39, [(0, .ref 47), (2, .int l2)], [.ref 47])) tb_c_55_0 mx_55 1 rfl ?_
  refine bk_gm tb_c_55_0 rfl rfl (ci := 4) (k := 2) rfl rfl rfl ?_
  by_cases g8 : tp_t (S.2.2.1 47 2) = (0, 8)
  · rw [if_pos g8] at h
    refine bk_b (q := (44, [(0, .ref 47), (2, .int l2)], [.ref 47, .int (2 : Int32), .ref (S.2.2.1 47 2)])) tb_c_55_0 mx_55 2 rfl ?_
    refine bk_gc tb_c_55_0 rfl rfl (ci := 4) (k := 10) rfl rfl rfl ?_
    refine bk_b (q := (48, [(0, .ref 47), (2, .int l2)], [.int l2, .ref 52, .int (2 : Int32), .ref (S.2.2.1 47 2)])) tb_c_55_0 mx_55 1 rfl ?_
    obtain ⟨x10, S9, c11, h⟩ := wd_cx h
    refine bk_kv tb_c_55_0 rfl rfl rfl rfl rfl (ci := 5) rfl rfl (ev_up (Nat.le_of_ble_eq_true rfl) (sn_Row_at rfl c11)) ?_
    obtain ⟨x13, S12, c14, h⟩ := wd_cx h
    refine bk_kv tb_c_55_0 rfl rfl rfl rfl rfl (ci := 8) g8 rfl (ev_up (Nat.le_of_ble_eq_true rfl) (sn_Trees_open g8 c14)) ?_
    cases h
    exact bk_t tb_c_55_0 rfl rfl
  · rw [if_neg g8] at h; cases h
/-- Specialiser$Reader.nameAlone(I)I -/
noncomputable def fn_Reader_nameAlone (p1 : Int32) (S : wd_S) : Option (Int32 × wd_S) :=
  (wd_c (fn_Tokens_value p1 S) fun x2 S1 =>
  (wd_c (fn_LongRow_lastOf 50 x2 (S1.1 47 11) S1) fun x5 S4 =>
  (if x5 = (-1 : Int32) then
    (if (S4.1 47 12) = (-1 : Int32) then
      (wd_b (wd_i S4 47 12 p1) fun S16 =>
      fn_Reader_nameAlone_38 x5 S16)
    else
      fn_Reader_nameAlone_38 x5 S4)
  else
    fn_Reader_nameAlone_38 x5 S4)))
set_option maxRecDepth 100000 in
theorem sn_Reader_nameAlone {L : Nat} {xs : Nat → Int32} {p1 : Int32} {S : wd_S} {x : Int32} {S' : wd_S} (h : fn_Reader_nameAlone p1 S = some (x, S')) : ev_r tb_P L xs (2 + 1) 55 [.ref 47, .int p1] (wd_k S) (.inl (some (.int x)), wd_k S') := by
  unfold fn_Reader_nameAlone at h
  refine ev_of (Nat.le_of_ble_eq_true rfl) ?_
  show go_r tb_P L xs 2 55 0 [(0, .ref 47), (1, .int p1)] [] (wd_k S) (.inl (some (.int x)), wd_k S')
  refine bk_b (q := (1, [(0, .ref 47), (1, .int p1)], [.ref 47])) tb_c_55_0 mx_55 1 rfl ?_
  refine bk_gc tb_c_55_0 rfl rfl (ci := 4) (k := 9) rfl rfl rfl ?_
  refine bk_b (q := (5, [(0, .ref 47), (1, .int p1)], [.ref 47, .ref 50])) tb_c_55_0 mx_55 1 rfl ?_
  refine bk_gc tb_c_55_0 rfl rfl (ci := 4) (k := 0) rfl rfl rfl ?_
  refine bk_b (q := (9, [(0, .ref 47), (1, .int p1)], [.int p1, .ref 4, .ref 50])) tb_c_55_0 mx_55 1 rfl ?_
  obtain ⟨x2, S1, c3, h⟩ := wd_cx h
  refine bk_kv tb_c_55_0 rfl rfl rfl rfl rfl (ci := 7) rfl rfl (ev_up (Nat.le_of_ble_eq_true rfl) (sn_Tokens_value c3)) ?_
  refine bk_b (q := (13, [(0, .ref 47), (1, .int p1)], [.ref 47, .long x2, .ref 50])) tb_c_55_0 mx_55 1 rfl ?_
  refine bk_gi tb_c_55_0 rfl rfl (ci := 4) (k := 11) rfl rfl rfl ?_
  obtain ⟨x5, S4, c6, h⟩ := wd_cx h
  refine bk_kv tb_c_55_0 rfl rfl rfl rfl rfl (ci := 1) rfl rfl (ev_up (Nat.le_of_ble_eq_true rfl) (sn_LongRow_lastOf rfl c6)) ?_
  refine bk_b (q := (22, [(2, .int x5), (0, .ref 47), (1, .int p1)], [.int (-1 : Int32), .int x5])) tb_c_55_0 mx_55 3 rfl ?_
  by_cases g7 : x5 = (-1 : Int32)
  · rw [if_pos g7] at h
    refine bk_jf tb_c_55_0 rfl (pc' := 25) rfl (t := 38) rfl (cm_ne_f g7) ?_
    refine bk_b (q := (26, [(2, .int x5), (0, .ref 47), (1, .int p1)], [.ref 47])) tb_c_55_0 mx_55 1 rfl ?_
    refine bk_gi tb_c_55_0 rfl rfl (ci := 4) (k := 12) rfl rfl rfl ?_
    refine bk_b (q := (30, [(2, .int x5), (0, .ref 47), (1, .int p1)], [.int (-1 : Int32), .int (S4.1 47 12)])) tb_c_55_0 mx_55 1 rfl ?_
    by_cases g15 : (S4.1 47 12) = (-1 : Int32)
    · rw [if_pos g15] at h
      refine bk_jf tb_c_55_0 rfl (pc' := 33) rfl (t := 38) rfl (cm_ne_f g15) ?_
      refine bk_b (q := (35, [(2, .int x5), (0, .ref 47), (1, .int p1)], [.int p1, .ref 47])) tb_c_55_0 mx_55 2 rfl ?_
      obtain ⟨S16, eS16, h⟩ := wd_bx h
      refine bk_pi tb_c_55_0 rfl rfl (ci := 4) (k := 12) rfl rfl rfl rfl ?_
      rw [eS16]
      exact go_lv (ls_sc rfl rfl (ls_sc rfl rfl ls_nil)) (sn_Reader_nameAlone_38 h)
    · rw [if_neg g15] at h
      refine bk_jt tb_c_55_0 rfl (pc' := 38) rfl (cm_ne_t g15) ?_
      exact go_lv (ls_sc rfl rfl (ls_sc rfl rfl ls_nil)) (sn_Reader_nameAlone_38 h)
  · rw [if_neg g7] at h
    refine bk_jt tb_c_55_0 rfl (pc' := 38) rfl (cm_ne_t g7) ?_
    exact go_lv (ls_sc rfl rfl (ls_sc rfl rfl ls_nil)) (sn_Reader_nameAlone_38 h)
theorem mx_52 : mi_mx tb_P 52 = 3 := rfl
noncomputable def fn_Reader_takeAtom_104 (slf : Nat → Int32 → Int32 → wd_S → Option (Int32 × wd_S)) (s0 : Int32) (S : wd_S) : Option (Int32 × wd_S) :=
  some (s0, S)
set_option maxRecDepth 100000 in
theorem sn_Reader_takeAtom_104 {L : Nat} {xs : Nat → Int32} {D : Nat} {slf : Nat → Int32 → Int32 → wd_S → Option (Int32 × wd_S)} (hD : 4 ≤ D) (hs43 : ∀ {a b : Int32} {S : wd_S} {x : Int32} {S' : wd_S}, slf 43 a b S = some (x, S') → ev_r tb_P L xs D 43 [.ref 47, .int a] (wd_k S) (.inl (some (.int x)), wd_k S')) (hs45 : ∀ {a b : Int32} {S : wd_S} {x : Int32} {S' : wd_S}, slf 45 a b S = some (x, S') → ev_r tb_P L xs D 45 [.ref 47, .int a] (wd_k S) (.inl (some (.int x)), wd_k S')) (hs48 : ∀ {a b : Int32} {S : wd_S} {x : Int32} {S' : wd_S}, slf 48 a b S = some (x, S') → ev_r tb_P L xs D 48 [.ref 47, .int a] (wd_k S) (.inl (some (.int x)), wd_k S')) (hs49 : ∀ {a b : Int32} {S : wd_S} {x : Int32} {S' : wd_S}, slf 49 a b S = some (x, S') → ev_r tb_P L xs D 49 [.ref 47, .int a] (wd_k S) (.inl (some (.int x)), wd_k S')) (hs50 : ∀ {a b : Int32} {S : wd_S} {x : Int32} {S' : wd_S}, slf 50 a b S = some (x, S') → ev_r tb_P L xs D 50 [.ref 47, .int a] (wd_k S) (.inl (some (.int x)), wd_k S')) (hs51 : ∀ {a b : Int32} {S : wd_S} {x : Int32} {S' : wd_S}, slf 51 a b S = some (x, S') → ev_r tb_P L xs D 51 [.ref 47, .int a] (wd_k S) (.inl (some (.int x)), wd_k S')) (hs52 : ∀ {a b : Int32} {S : wd_S} {x : Int32} {S' : wd_S}, slf 52 a b S = some (x, S') → ev_r tb_P L xs D 52 [.ref 47, .int a] (wd_k S) (.inl (some (.int x)), wd_k S')) (hs54 : ∀ {a b : Int32} {S : wd_S} {x : Int32} {S' : wd_S}, slf 54 a b S = some (x, S') → ev_r tb_P L xs D 54 [.ref 47, .int a, .int b] (wd_k S) (.inl (some (.int x)), wd_k S')) {s0 : Int32} {S : wd_S} {x : Int32} {S' : wd_S} (h : fn_Reader_takeAtom_104 slf s0 S = some (x, S')) : go_r tb_P L xs D 52 104 [] [.int s0] (wd_k S) (.inl (some (.int x)), wd_k S') := by
  unfold fn_Reader_takeAtom_104 at h
  cases h
  exact bk_t tb_c_52_0 rfl rfl
/-- Specialiser$Reader.takeAtom(I)I -/
noncomputable def fn_Reader_takeAtom (slf : Nat → Int32 → Int32 → wd_S → Option (Int32 × wd_S)) (p1 : Int32) (S : wd_S) : Option (Int32 × wd_S) :=
  (if (S.1 47 4) = (1 : Int32) then
    (wd_c (fn_Reader_takeNumber (1 : Int32) S) fun x3 S2 =>
    some (x3, S2))
  else
  (if (S.1 47 4) = (2 : Int32) then
    (wd_d (fn_Reader_takeKind (2 : Int32) S) fun S6 =>
    (if (S6.1 47 4) = (15 : Int32) then
      (wd_c (slf 54 ((S6.1 47 3) - (1 : Int32)) p1 S6) fun x14 S13 =>
      fn_Reader_takeAtom_104 slf x14 S13)
    else
      (wd_c (fn_Reader_nameAlone ((S6.1 47 3) - (1 : Int32)) S6) fun x11 S10 =>
      fn_Reader_takeAtom_104 slf x11 S10)))
  else
  (if (S.1 47 4) = (7 : Int32) then
    (wd_d (fn_Reader_takeKind (7 : Int32) S) fun S17 =>
    (wd_c (fn_Reader_takeNumber (-1 : Int32) S17) fun x21 S20 =>
    some (x21, S20)))
  else
  (if (S.1 47 4) = (15 : Int32) then
    (wd_d (fn_Reader_takeKind (15 : Int32) S) fun S24 =>
    (wd_c (slf 43 (p1 + (1 : Int32)) 0 S24) fun x28 S27 =>
    (wd_d (fn_Reader_takeKind (16 : Int32) S27) fun S30 =>
    some (x28, S30))))
  else
  (wd_d (fn_Reader_refuse  S) fun S33 =>
  some ((0 : Int32), S33))))))
set_option maxRecDepth 100000 in
theorem sn_Reader_takeAtom {L : Nat} {xs : Nat → Int32} {D : Nat} {slf : Nat → Int32 → Int32 → wd_S → Option (Int32 × wd_S)} (hD : 4 ≤ D) (hs43 : ∀ {a b : Int32} {S : wd_S} {x : Int32} {S' : wd_S}, slf 43 a b S = some (x, S') → ev_r tb_P L xs D 43 [.ref 47, .int a] (wd_k S) (.inl (some (.int x)), wd_k S')) (hs45 : ∀ {a b : Int32} {S : wd_S} {x : Int32} {S' : wd_S}, slf 45 a b S = some (x, S') → ev_r tb_P L xs D 45 [.ref 47, .int a] (wd_k S) (.inl (some (.int x)), wd_k S')) (hs48 : ∀ {a b : Int32} {S : wd_S} {x : Int32} {S' : wd_S}, slf 48 a b S = some (x, S') → ev_r tb_P L xs D 48 [.ref 47, .int a] (wd_k S) (.inl (some (.int x)), wd_k S')) (hs49 : ∀ {a b : Int32} {S : wd_S} {x : Int32} {S' : wd_S}, slf 49 a b S = some (x, S') → ev_r tb_P L xs D 49 [.ref 47, .int a] (wd_k S) (.inl (some (.int x)), wd_k S')) (hs50 : ∀ {a b : Int32} {S : wd_S} {x : Int32} {S' : wd_S}, slf 50 a b S = some (x, S') → ev_r tb_P L xs D 50 [.ref 47, .int a] (wd_k S) (.inl (some (.int x)), wd_k S')) (hs51 : ∀ {a b : Int32} {S : wd_S} {x : Int32} {S' : wd_S}, slf 51 a b S = some (x, S') → ev_r tb_P L xs D 51 [.ref 47, .int a] (wd_k S) (.inl (some (.int x)), wd_k S')) (hs52 : ∀ {a b : Int32} {S : wd_S} {x : Int32} {S' : wd_S}, slf 52 a b S = some (x, S') → ev_r tb_P L xs D 52 [.ref 47, .int a] (wd_k S) (.inl (some (.int x)), wd_k S')) (hs54 : ∀ {a b : Int32} {S : wd_S} {x : Int32} {S' : wd_S}, slf 54 a b S = some (x, S') → ev_r tb_P L xs D 54 [.ref 47, .int a, .int b] (wd_k S) (.inl (some (.int x)), wd_k S')) {p1 : Int32} {S : wd_S} {x : Int32} {S' : wd_S} (h : fn_Reader_takeAtom slf p1 S = some (x, S')) : ev_r tb_P L xs (D + 1) 52 [.ref 47, .int p1] (wd_k S) (.inl (some (.int x)), wd_k S') := by
  unfold fn_Reader_takeAtom at h
  refine ev_of (Nat.le_of_ble_eq_true rfl) ?_
  show go_r tb_P L xs D 52 0 [(0, .ref 47), (1, .int p1)] [] (wd_k S) (.inl (some (.int x)), wd_k S')
  refine bk_b (q := (1, [(0, .ref 47), (1, .int p1)], [.ref 47])) tb_c_52_0 mx_52 1 rfl ?_
  refine bk_gi tb_c_52_0 rfl rfl (ci := 4) (k := 4) rfl rfl rfl ?_
  by_cases g1 : (S.1 47 4) = (1 : Int32)
  · rw [if_pos g1] at h
    refine bk_sw tb_c_52_0 rfl (pc' := 60) (by rw [g1]; rfl) ?_
    refine bk_b (q := (62, [(0, .ref 47), (1, .int p1)], [.int (1 : Int32), .ref 47])) tb_c_52_0 mx_52 2 rfl ?_
    obtain ⟨x3, S2, c4, h⟩ := wd_cx h
    refine bk_kv tb_c_52_0 rfl rfl rfl rfl rfl (ci := 4) rfl rfl (ev_up (Nat.le_trans (Nat.le_of_ble_eq_true rfl) hD) (sn_Reader_takeNumber c4)) ?_
    cases h
    exact bk_t tb_c_52_0 rfl rfl
  · rw [if_neg g1] at h
    by_cases g5 : (S.1 47 4) = (2 : Int32)
    · rw [if_pos g5] at h
      refine bk_sw tb_c_52_0 rfl (pc' := 66) (by rw [g5]; rfl) ?_
      refine bk_b (q := (68, [(0, .ref 47), (1, .int p1)], [.int (2 : Int32), .ref 47])) tb_c_52_0 mx_52 2 rfl ?_
      obtain ⟨S6, c8, h⟩ := wd_dx h
      refine bk_kv tb_c_52_0 rfl rfl rfl rfl rfl (ci := 4) rfl rfl (ev_up (Nat.le_trans (Nat.le_of_ble_eq_true rfl) hD) (sn_Reader_takeKind c8)) ?_
      refine bk_b (q := (72, [(0, .ref 47), (1, .int p1)], [.ref 47])) tb_c_52_0 mx_52 1 rfl ?_
      refine bk_gi tb_c_52_0 rfl rfl (ci := 4) (k := 4) rfl rfl rfl ?_
      refine bk_b (q := (77, [(0, .ref 47), (1, .int p1)], [.int (15 : Int32), .int (S6.1 47 4)])) tb_c_52_0 mx_52 1 rfl ?_
      by_cases g9 : (S6.1 47 4) = (15 : Int32)
      · rw [if_pos g9] at h
        refine bk_jf tb_c_52_0 rfl (pc' := 80) rfl (t := 94) rfl (cm_ne_f g9) ?_
        refine bk_b (q := (82, [(0, .ref 47), (1, .int p1)], [.ref 47, .ref 47])) tb_c_52_0 mx_52 2 rfl ?_
        refine bk_gi tb_c_52_0 rfl rfl (ci := 4) (k := 3) rfl rfl rfl ?_
        refine bk_b (q := (88, [(0, .ref 47), (1, .int p1)], [.int p1, .int ((S6.1 47 3) - (1 : Int32)), .ref 47])) tb_c_52_0 mx_52 3 rfl ?_
        obtain ⟨x14, S13, c15, h⟩ := wd_cx h
        refine bk_kv tb_c_52_0 rfl rfl rfl rfl rfl (ci := 4) rfl rfl (hs54 c15) ?_
        refine bk_b (q := (104, [(0, .ref 47), (1, .int p1)], [.int x14])) tb_c_52_0 mx_52 1 rfl ?_
        exact go_lv ls_nil (sn_Reader_takeAtom_104 hD hs43 hs45 hs48 hs49 hs50 hs51 hs52 hs54 h)
      · rw [if_neg g9] at h
        refine bk_jt tb_c_52_0 rfl (pc' := 94) rfl (cm_ne_t g9) ?_
        refine bk_b (q := (96, [(0, .ref 47), (1, .int p1)], [.ref 47, .ref 47])) tb_c_52_0 mx_52 2 rfl ?_
        refine bk_gi tb_c_52_0 rfl rfl (ci := 4) (k := 3) rfl rfl rfl ?_
        refine bk_b (q := (101, [(0, .ref 47), (1, .int p1)], [.int ((S6.1 47 3) - (1 : Int32)), .ref 47])) tb_c_52_0 mx_52 2 rfl ?_
        obtain ⟨x11, S10, c12, h⟩ := wd_cx h
        refine bk_kv tb_c_52_0 rfl rfl rfl rfl rfl (ci := 4) rfl rfl (ev_up (Nat.le_trans (Nat.le_of_ble_eq_true rfl) hD) (sn_Reader_nameAlone c12)) ?_
        exact go_lv ls_nil (sn_Reader_takeAtom_104 hD hs43 hs45 hs48 hs49 hs50 hs51 hs52 hs54 h)
    · rw [if_neg g5] at h
      by_cases g16 : (S.1 47 4) = (7 : Int32)
      · rw [if_pos g16] at h
        refine bk_sw tb_c_52_0 rfl (pc' := 48) (by rw [g16]; rfl) ?_
        refine bk_b (q := (51, [(0, .ref 47), (1, .int p1)], [.int (7 : Int32), .ref 47])) tb_c_52_0 mx_52 2 rfl ?_
        obtain ⟨S17, c19, h⟩ := wd_dx h
        refine bk_kv tb_c_52_0 rfl rfl rfl rfl rfl (ci := 4) rfl rfl (ev_up (Nat.le_trans (Nat.le_of_ble_eq_true rfl) hD) (sn_Reader_takeKind c19)) ?_
        refine bk_b (q := (56, [(0, .ref 47), (1, .int p1)], [.int (-1 : Int32), .ref 47])) tb_c_52_0 mx_52 2 rfl ?_
        obtain ⟨x21, S20, c22, h⟩ := wd_cx h
        refine bk_kv tb_c_52_0 rfl rfl rfl rfl rfl (ci := 4) rfl rfl (ev_up (Nat.le_trans (Nat.le_of_ble_eq_true rfl) hD) (sn_Reader_takeNumber c22)) ?_
        cases h
        exact bk_t tb_c_52_0 rfl rfl
      · rw [if_neg g16] at h
        by_cases g23 : (S.1 47 4) = (15 : Int32)
        · rw [if_pos g23] at h
          refine bk_sw tb_c_52_0 rfl (pc' := 105) (by rw [g23]; rfl) ?_
          refine bk_b (q := (108, [(0, .ref 47), (1, .int p1)], [.int (15 : Int32), .ref 47])) tb_c_52_0 mx_52 2 rfl ?_
          obtain ⟨S24, c26, h⟩ := wd_dx h
          refine bk_kv tb_c_52_0 rfl rfl rfl rfl rfl (ci := 4) rfl rfl (ev_up (Nat.le_trans (Nat.le_of_ble_eq_true rfl) hD) (sn_Reader_takeKind c26)) ?_
          refine bk_b (q := (112, [(0, .ref 47), (1, .int p1)], [.ref 47])) tb_c_52_0 mx_52 1 rfl ?_
          refine bk_b (q := (115, [(0, .ref 47), (1, .int p1)], [.int (p1 + (1 : Int32)), .ref 47])) tb_c_52_1 mx_52 3 rfl ?_
          obtain ⟨x28, S27, c29, h⟩ := wd_cx h
          refine bk_kv tb_c_52_1 rfl rfl rfl rfl rfl (ci := 4) rfl rfl (hs43 (b := 0) c29) ?_
          refine bk_b (q := (122, [(2, .int x28), (0, .ref 47), (1, .int p1)], [.int (16 : Int32), .ref 47])) tb_c_52_1 mx_52 3 rfl ?_
          obtain ⟨S30, c32, h⟩ := wd_dx h
          refine bk_kv tb_c_52_1 rfl rfl rfl rfl rfl (ci := 4) rfl rfl (ev_up (Nat.le_trans (Nat.le_of_ble_eq_true rfl) hD) (sn_Reader_takeKind c32)) ?_
          refine bk_b (q := (126, [(2, .int x28), (0, .ref 47), (1, .int p1)], [.int x28])) tb_c_52_1 mx_52 1 rfl ?_
          cases h
          exact bk_t tb_c_52_1 rfl rfl
        · rw [if_neg g23] at h
          refine bk_sw tb_c_52_0 rfl (pc' := 127) (by refine sw_l (t := 127) rfl ?_ rfl; exact ⟨g1, g5, g16, g23, trivial⟩) ?_
          refine bk_b (q := (128, [(0, .ref 47), (1, .int p1)], [.ref 47])) tb_c_52_1 mx_52 1 rfl ?_
          obtain ⟨S33, c35, h⟩ := wd_dx h
          refine bk_kv tb_c_52_1 rfl rfl rfl rfl rfl (ci := 4) rfl rfl (ev_up (Nat.le_trans (Nat.le_of_ble_eq_true rfl) hD) (sn_Reader_refuse c35)) ?_
          refine bk_b (q := (132, [(0, .ref 47), (1, .int p1)], [.int (0 : Int32)])) tb_c_52_1 mx_52 1 rfl ?_
          cases h
          exact bk_t tb_c_52_1 rfl rfl
theorem mx_56 : mi_mx tb_P 56 = 5 := rfl
/-- Specialiser$Trees.join(III)I -/
noncomputable def fn_Trees_join (p0 : Nat) (p1 : Int32) (p2 : Int32) (p3 : Int32) (S : wd_S) : Option (Int32 × wd_S) :=
  (wd_c (fn_Trees_open p0 p1 (0 : Int32) S) fun x2 S1 =>
  (wd_d (fn_Trees_append p0 x2 p2 S1) fun S4 =>
  (wd_d (fn_Trees_append p0 x2 p3 S4) fun S7 =>
  some (x2, S7))))
set_option maxRecDepth 100000 in
theorem sn_Trees_join {L : Nat} {xs : Nat → Int32} {p0 : Nat} {p1 : Int32} {p2 : Int32} {p3 : Int32} {S : wd_S} {x : Int32} {S' : wd_S} (hp0 : tp_t p0 = (0, 8)) (h : fn_Trees_join p0 p1 p2 p3 S = some (x, S')) : ev_r tb_P L xs (2 + 1) 56 [.ref p0, .int p1, .int p2, .int p3] (wd_k S) (.inl (some (.int x)), wd_k S') := by
  unfold fn_Trees_join at h
  refine ev_of (Nat.le_of_ble_eq_true rfl) ?_
  show go_r tb_P L xs 2 56 0 [(0, .ref p0), (1, .int p1), (2, .int p2), (3, .int p3)] [] (wd_k S) (.inl (some (.int x)), wd_k S')
  refine bk_b (q := (3, [(0, .ref p0), (1, .int p1), (2, .int p2), (3, .int p3)], [.int (0 : Int32), .int p1, .ref p0])) tb_c_56_0 mx_56 3 rfl ?_
  obtain ⟨x2, S1, c3, h⟩ := wd_cx h
  refine bk_kv tb_c_56_0 rfl rfl rfl rfl rfl (ci := 8) hp0 rfl (ev_up (Nat.le_of_ble_eq_true rfl) (sn_Trees_open hp0 c3)) ?_
  refine bk_b (q := (12, [(4, .int x2), (0, .ref p0), (1, .int p1), (2, .int p2), (3, .int p3)], [.int p2, .int x2, .ref p0])) tb_c_56_0 mx_56 4 rfl ?_
  obtain ⟨S4, c6, h⟩ := wd_dx h
  refine bk_kv tb_c_56_0 rfl rfl rfl rfl rfl (ci := 8) hp0 rfl (ev_up (Nat.le_of_ble_eq_true rfl) (sn_Trees_append hp0 c6)) ?_
  refine bk_b (q := (19, [(4, .int x2), (0, .ref p0), (1, .int p1), (2, .int p2), (3, .int p3)], [.int p3, .int x2, .ref p0])) tb_c_56_0 mx_56 3 rfl ?_
  obtain ⟨S7, c9, h⟩ := wd_dx h
  refine bk_kv tb_c_56_0 rfl rfl rfl rfl rfl (ci := 8) hp0 rfl (ev_up (Nat.le_of_ble_eq_true rfl) (sn_Trees_append hp0 c9)) ?_
  refine bk_b (q := (24, [(4, .int x2), (0, .ref p0), (1, .int p1), (2, .int p2), (3, .int p3)], [.int x2])) tb_c_56_0 mx_56 1 rfl ?_
  cases h
  exact bk_t tb_c_56_0 rfl rfl
theorem mx_51 : mi_mx tb_P 51 = 3 := rfl
/-- Specialiser$Reader.takeProduct(I)I -/
noncomputable def fn_Reader_takeProduct (slf : Nat → Int32 → Int32 → wd_S → Option (Int32 × wd_S)) (p1 : Int32) (S : wd_S) : Option (Int32 × wd_S) :=
  (wd_c (slf 52 p1 0 S) fun x2 S1 =>
  (if (S1.1 47 4) = (8 : Int32) then
    (wd_d (fn_Reader_takeKind (8 : Int32) S1) fun S5 =>
    (if tp_t (S5.2.2.1 47 2) = (0, 8) then
      (wd_c (slf 52 p1 0 S5) fun x10 S9 =>
      (wd_c (fn_Trees_join (S5.2.2.1 47 2) (8 : Int32) x2 x10 S9) fun x13 S12 =>
      some (x13, S12)))
    else none))
  else
    some (x2, S1)))
set_option maxRecDepth 100000 in
theorem sn_Reader_takeProduct {L : Nat} {xs : Nat → Int32} {D : Nat} {slf : Nat → Int32 → Int32 → wd_S → Option (Int32 × wd_S)} (hD : 4 ≤ D) (hs43 : ∀ {a b : Int32} {S : wd_S} {x : Int32} {S' : wd_S}, slf 43 a b S = some (x, S') → ev_r tb_P L xs D 43 [.ref 47, .int a] (wd_k S) (.inl (some (.int x)), wd_k S')) (hs45 : ∀ {a b : Int32} {S : wd_S} {x : Int32} {S' : wd_S}, slf 45 a b S = some (x, S') → ev_r tb_P L xs D 45 [.ref 47, .int a] (wd_k S) (.inl (some (.int x)), wd_k S')) (hs48 : ∀ {a b : Int32} {S : wd_S} {x : Int32} {S' : wd_S}, slf 48 a b S = some (x, S') → ev_r tb_P L xs D 48 [.ref 47, .int a] (wd_k S) (.inl (some (.int x)), wd_k S')) (hs49 : ∀ {a b : Int32} {S : wd_S} {x : Int32} {S' : wd_S}, slf 49 a b S = some (x, S') → ev_r tb_P L xs D 49 [.ref 47, .int a] (wd_k S) (.inl (some (.int x)), wd_k S')) (hs50 : ∀ {a b : Int32} {S : wd_S} {x : Int32} {S' : wd_S}, slf 50 a b S = some (x, S') → ev_r tb_P L xs D 50 [.ref 47, .int a] (wd_k S) (.inl (some (.int x)), wd_k S')) (hs51 : ∀ {a b : Int32} {S : wd_S} {x : Int32} {S' : wd_S}, slf 51 a b S = some (x, S') → ev_r tb_P L xs D 51 [.ref 47, .int a] (wd_k S) (.inl (some (.int x)), wd_k S')) (hs52 : ∀ {a b : Int32} {S : wd_S} {x : Int32} {S' : wd_S}, slf 52 a b S = some (x, S') → ev_r tb_P L xs D 52 [.ref 47, .int a] (wd_k S) (.inl (some (.int x)), wd_k S')) (hs54 : ∀ {a b : Int32} {S : wd_S} {x : Int32} {S' : wd_S}, slf 54 a b S = some (x, S') → ev_r tb_P L xs D 54 [.ref 47, .int a, .int b] (wd_k S) (.inl (some (.int x)), wd_k S')) {p1 : Int32} {S : wd_S} {x : Int32} {S' : wd_S} (h : fn_Reader_takeProduct slf p1 S = some (x, S')) : ev_r tb_P L xs (D + 1) 51 [.ref 47, .int p1] (wd_k S) (.inl (some (.int x)), wd_k S') := by
  unfold fn_Reader_takeProduct at h
  refine ev_of (Nat.le_of_ble_eq_true rfl) ?_
  show go_r tb_P L xs D 51 0 [(0, .ref 47), (1, .int p1)] [] (wd_k S) (.inl (some (.int x)), wd_k S')
  refine bk_b (q := (2, [(0, .ref 47), (1, .int p1)], [.int p1, .ref 47])) tb_c_51_0 mx_51 2 rfl ?_
  obtain ⟨x2, S1, c3, h⟩ := wd_cx h
  refine bk_kv tb_c_51_0 rfl rfl rfl rfl rfl (ci := 4) rfl rfl (hs52 (b := 0) c3) ?_
  refine bk_b (q := (7, [(2, .int x2), (0, .ref 47), (1, .int p1)], [.ref 47])) tb_c_51_0 mx_51 2 rfl ?_
  refine bk_gi tb_c_51_0 rfl rfl (ci := 4) (k := 4) rfl rfl rfl ?_
  refine bk_b (q := (12, [(2, .int x2), (0, .ref 47), (1, .int p1)], [.int (8 : Int32), .int (S1.1 47 4)])) tb_c_51_0 mx_51 1 rfl ?_
  by_cases g4 : (S1.1 47 4) = (8 : Int32)
  · rw [if_pos g4] at h
    refine bk_jt tb_c_51_0 rfl (pc' := 17) rfl (cm_eq_t g4) ?_
    refine bk_b (q := (20, [(2, .int x2), (0, .ref 47), (1, .int p1)], [.int (8 : Int32), .ref 47])) tb_c_51_0 mx_51 2 rfl ?_
    obtain ⟨S5, c7, h⟩ := wd_dx h
    refine bk_kv tb_c_51_0 rfl rfl rfl rfl rfl (ci := 4) rfl rfl (ev_up (Nat.le_trans (Nat.le_of_ble_eq_true rfl) hD) (sn_Reader_takeKind c7)) ?_
    refine bk_b (q := (24, [(2, .int x2), (0, .ref 47), (1, .int p1)], [.ref 47])) tb_c_51_0 mx_51 1 rfl ?_
    refine bk_gm tb_c_51_0 rfl rfl (ci := 4) (k := 2) rfl rfl rfl ?_
    by_cases g8 : tp_t (S5.2.2.1 47 2) = (0, 8)
    · rw [if_pos g8] at h
      refine bk_b (q := (32, [(2, .int x2), (0, .ref 47), (1, .int p1)], [.int p1, .ref 47, .int x2, .int (8 : Int32), .ref (S5.2.2.1 47 2)])) tb_c_51_0 mx_51 4 rfl ?_
      obtain ⟨x10, S9, c11, h⟩ := wd_cx h
      refine bk_kv tb_c_51_0 rfl rfl rfl rfl rfl (ci := 4) rfl rfl (hs52 (b := 0) c11) ?_
      obtain ⟨x13, S12, c14, h⟩ := wd_cx h
      refine bk_kv tb_c_51_0 rfl rfl rfl rfl rfl (ci := 8) g8 rfl (ev_up (Nat.le_trans (Nat.le_of_ble_eq_true rfl) hD) (sn_Trees_join g8 c14)) ?_
      cases h
      exact bk_t tb_c_51_0 rfl rfl
    · rw [if_neg g8] at h; cases h
  · rw [if_neg g4] at h
    refine bk_jf tb_c_51_0 rfl (pc' := 15) rfl (t := 17) rfl (cm_eq_f g4) ?_
    refine bk_b (q := (16, [(2, .int x2), (0, .ref 47), (1, .int p1)], [.int x2])) tb_c_51_0 mx_51 1 rfl ?_
    cases h
    exact bk_t tb_c_51_0 rfl rfl
theorem mx_50 : mi_mx tb_P 50 = 4 := rfl
noncomputable def fn_Reader_takeSum_25 (slf : Nat → Int32 → Int32 → wd_S → Option (Int32 × wd_S)) (l1 : Int32) (l2 : Int32) (l3 : Int32) (S : wd_S) : Option (Int32 × wd_S) :=
  (wd_d (fn_Reader_takeKind l3 S) fun S5 =>
  (if tp_t (S5.2.2.1 47 2) = (0, 8) then
    (wd_c (slf 51 l1 0 S5) fun x10 S9 =>
    (wd_c (fn_Trees_join (S5.2.2.1 47 2) l3 l2 x10 S9) fun x13 S12 =>
    some (x13, S12)))
  else none))
set_option maxRecDepth 100000 in
theorem sn_Reader_takeSum_25 {L : Nat} {xs : Nat → Int32} {D : Nat} {slf : Nat → Int32 → Int32 → wd_S → Option (Int32 × wd_S)} (hD : 4 ≤ D) (hs43 : ∀ {a b : Int32} {S : wd_S} {x : Int32} {S' : wd_S}, slf 43 a b S = some (x, S') → ev_r tb_P L xs D 43 [.ref 47, .int a] (wd_k S) (.inl (some (.int x)), wd_k S')) (hs45 : ∀ {a b : Int32} {S : wd_S} {x : Int32} {S' : wd_S}, slf 45 a b S = some (x, S') → ev_r tb_P L xs D 45 [.ref 47, .int a] (wd_k S) (.inl (some (.int x)), wd_k S')) (hs48 : ∀ {a b : Int32} {S : wd_S} {x : Int32} {S' : wd_S}, slf 48 a b S = some (x, S') → ev_r tb_P L xs D 48 [.ref 47, .int a] (wd_k S) (.inl (some (.int x)), wd_k S')) (hs49 : ∀ {a b : Int32} {S : wd_S} {x : Int32} {S' : wd_S}, slf 49 a b S = some (x, S') → ev_r tb_P L xs D 49 [.ref 47, .int a] (wd_k S) (.inl (some (.int x)), wd_k S')) (hs50 : ∀ {a b : Int32} {S : wd_S} {x : Int32} {S' : wd_S}, slf 50 a b S = some (x, S') → ev_r tb_P L xs D 50 [.ref 47, .int a] (wd_k S) (.inl (some (.int x)), wd_k S')) (hs51 : ∀ {a b : Int32} {S : wd_S} {x : Int32} {S' : wd_S}, slf 51 a b S = some (x, S') → ev_r tb_P L xs D 51 [.ref 47, .int a] (wd_k S) (.inl (some (.int x)), wd_k S')) (hs52 : ∀ {a b : Int32} {S : wd_S} {x : Int32} {S' : wd_S}, slf 52 a b S = some (x, S') → ev_r tb_P L xs D 52 [.ref 47, .int a] (wd_k S) (.inl (some (.int x)), wd_k S')) (hs54 : ∀ {a b : Int32} {S : wd_S} {x : Int32} {S' : wd_S}, slf 54 a b S = some (x, S') → ev_r tb_P L xs D 54 [.ref 47, .int a, .int b] (wd_k S) (.inl (some (.int x)), wd_k S')) {l1 : Int32} {l2 : Int32} {l3 : Int32} {S : wd_S} {x : Int32} {S' : wd_S} (h : fn_Reader_takeSum_25 slf l1 l2 l3 S = some (x, S')) : go_r tb_P L xs D 50 25 [(0, .ref 47), (1, .int l1), (2, .int l2), (3, .int l3)] [] (wd_k S) (.inl (some (.int x)), wd_k S') := by
  unfold fn_Reader_takeSum_25 at h
  refine bk_b (q := (27, [(0, .ref 47), (1, .int l1), (2, .int l2), (3, .int l3)], [.int l3, .ref 47])) tb_c_50_0 mx_50 2 rfl ?_
  obtain ⟨S5, c7, h⟩ := wd_dx h
  refine bk_kv tb_c_50_0 rfl rfl rfl rfl rfl (ci := 4) rfl rfl (ev_up (Nat.le_trans (Nat.le_of_ble_eq_true rfl) hD) (sn_Reader_takeKind c7)) ?_
  refine bk_b (q := (31, [(0, .ref 47), (1, .int l1), (2, .int l2), (3, .int l3)], [.ref 47])) tb_c_50_0 mx_50 1 rfl ?_
  refine bk_gm tb_c_50_0 rfl rfl (ci := 4) (k := 2) rfl rfl rfl ?_
  by_cases g8 : tp_t (S5.2.2.1 47 2) = (0, 8)
  · rw [if_pos g8] at h
    refine bk_b (q := (38, [(0, .ref 47), (1, .int l1), (2, .int l2), (3, .int l3)], [.int l1, .ref 47, .int l2, .int l3, .ref (S5.2.2.1 47 2)])) tb_c_50_0 mx_50 4 rfl ?_
    obtain ⟨x10, S9, c11, h⟩ := wd_cx h
    refine bk_kv tb_c_50_0 rfl rfl rfl rfl rfl (ci := 4) rfl rfl (hs51 (b := 0) c11) ?_
    obtain ⟨x13, S12, c14, h⟩ := wd_cx h
    refine bk_kv tb_c_50_0 rfl rfl rfl rfl rfl (ci := 8) g8 rfl (ev_up (Nat.le_trans (Nat.le_of_ble_eq_true rfl) hD) (sn_Trees_join g8 c14)) ?_
    cases h
    exact bk_t tb_c_50_0 rfl rfl
  · rw [if_neg g8] at h; cases h
/-- Specialiser$Reader.takeSum(I)I -/
noncomputable def fn_Reader_takeSum (slf : Nat → Int32 → Int32 → wd_S → Option (Int32 × wd_S)) (p1 : Int32) (S : wd_S) : Option (Int32 × wd_S) :=
  (wd_c (slf 51 p1 0 S) fun x2 S1 =>
  (if (S1.1 47 4) = (6 : Int32) then
    fn_Reader_takeSum_25 slf p1 x2 (S1.1 47 4) S1
  else
    (if (S1.1 47 4) = (7 : Int32) then
      fn_Reader_takeSum_25 slf p1 x2 (S1.1 47 4) S1
    else
      some (x2, S1))))
set_option maxRecDepth 100000 in
theorem sn_Reader_takeSum {L : Nat} {xs : Nat → Int32} {D : Nat} {slf : Nat → Int32 → Int32 → wd_S → Option (Int32 × wd_S)} (hD : 4 ≤ D) (hs43 : ∀ {a b : Int32} {S : wd_S} {x : Int32} {S' : wd_S}, slf 43 a b S = some (x, S') → ev_r tb_P L xs D 43 [.ref 47, .int a] (wd_k S) (.inl (some (.int x)), wd_k S')) (hs45 : ∀ {a b : Int32} {S : wd_S} {x : Int32} {S' : wd_S}, slf 45 a b S = some (x, S') → ev_r tb_P L xs D 45 [.ref 47, .int a] (wd_k S) (.inl (some (.int x)), wd_k S')) (hs48 : ∀ {a b : Int32} {S : wd_S} {x : Int32} {S' : wd_S}, slf 48 a b S = some (x, S') → ev_r tb_P L xs D 48 [.ref 47, .int a] (wd_k S) (.inl (some (.int x)), wd_k S')) (hs49 : ∀ {a b : Int32} {S : wd_S} {x : Int32} {S' : wd_S}, slf 49 a b S = some (x, S') → ev_r tb_P L xs D 49 [.ref 47, .int a] (wd_k S) (.inl (some (.int x)), wd_k S')) (hs50 : ∀ {a b : Int32} {S : wd_S} {x : Int32} {S' : wd_S}, slf 50 a b S = some (x, S') → ev_r tb_P L xs D 50 [.ref 47, .int a] (wd_k S) (.inl (some (.int x)), wd_k S')) (hs51 : ∀ {a b : Int32} {S : wd_S} {x : Int32} {S' : wd_S}, slf 51 a b S = some (x, S') → ev_r tb_P L xs D 51 [.ref 47, .int a] (wd_k S) (.inl (some (.int x)), wd_k S')) (hs52 : ∀ {a b : Int32} {S : wd_S} {x : Int32} {S' : wd_S}, slf 52 a b S = some (x, S') → ev_r tb_P L xs D 52 [.ref 47, .int a] (wd_k S) (.inl (some (.int x)), wd_k S')) (hs54 : ∀ {a b : Int32} {S : wd_S} {x : Int32} {S' : wd_S}, slf 54 a b S = some (x, S') → ev_r tb_P L xs D 54 [.ref 47, .int a, .int b] (wd_k S) (.inl (some (.int x)), wd_k S')) {p1 : Int32} {S : wd_S} {x : Int32} {S' : wd_S} (h : fn_Reader_takeSum slf p1 S = some (x, S')) : ev_r tb_P L xs (D + 1) 50 [.ref 47, .int p1] (wd_k S) (.inl (some (.int x)), wd_k S') := by
  unfold fn_Reader_takeSum at h
  refine ev_of (Nat.le_of_ble_eq_true rfl) ?_
  show go_r tb_P L xs D 50 0 [(0, .ref 47), (1, .int p1)] [] (wd_k S) (.inl (some (.int x)), wd_k S')
  refine bk_b (q := (2, [(0, .ref 47), (1, .int p1)], [.int p1, .ref 47])) tb_c_50_0 mx_50 2 rfl ?_
  obtain ⟨x2, S1, c3, h⟩ := wd_cx h
  refine bk_kv tb_c_50_0 rfl rfl rfl rfl rfl (ci := 4) rfl rfl (hs51 (b := 0) c3) ?_
  refine bk_b (q := (7, [(2, .int x2), (0, .ref 47), (1, .int p1)], [.ref 47])) tb_c_50_0 mx_50 2 rfl ?_
  refine bk_gi tb_c_50_0 rfl rfl (ci := 4) (k := 4) rfl rfl rfl ?_
  refine bk_b (q := (14, [(3, .int (S1.1 47 4)), (2, .int x2), (0, .ref 47), (1, .int p1)], [.int (6 : Int32), .int (S1.1 47 4)])) tb_c_50_0 mx_50 3 rfl ?_
  by_cases g4 : (S1.1 47 4) = (6 : Int32)
  · rw [if_pos g4] at h
    refine bk_jt tb_c_50_0 rfl (pc' := 25) rfl (cm_eq_t g4) ?_
    exact go_lv (ls_sc rfl rfl (ls_sc rfl rfl (ls_sc rfl rfl (ls_sc rfl rfl ls_nil)))) (sn_Reader_takeSum_25 hD hs43 hs45 hs48 hs49 hs50 hs51 hs52 hs54 h)
  · rw [if_neg g4] at h
    refine bk_jf tb_c_50_0 rfl (pc' := 17) rfl (t := 25) rfl (cm_eq_f g4) ?_
    refine bk_b (q := (20, [(3, .int (S1.1 47 4)), (2, .int x2), (0, .ref 47), (1, .int p1)], [.int (7 : Int32), .int (S1.1 47 4)])) tb_c_50_0 mx_50 2 rfl ?_
    by_cases g15 : (S1.1 47 4) = (7 : Int32)
    · rw [if_pos g15] at h
      refine bk_jt tb_c_50_0 rfl (pc' := 25) rfl (cm_eq_t g15) ?_
      exact go_lv (ls_sc rfl rfl (ls_sc rfl rfl (ls_sc rfl rfl (ls_sc rfl rfl ls_nil)))) (sn_Reader_takeSum_25 hD hs43 hs45 hs48 hs49 hs50 hs51 hs52 hs54 h)
    · rw [if_neg g15] at h
      refine bk_jf tb_c_50_0 rfl (pc' := 23) rfl (t := 25) rfl (cm_eq_f g15) ?_
      refine bk_b (q := (24, [(3, .int (S1.1 47 4)), (2, .int x2), (0, .ref 47), (1, .int p1)], [.int x2])) tb_c_50_0 mx_50 1 rfl ?_
      cases h
      exact bk_t tb_c_50_0 rfl rfl
theorem mx_49 : mi_mx tb_P 49 = 4 := rfl
noncomputable def fn_Reader_takeComparison_25 (slf : Nat → Int32 → Int32 → wd_S → Option (Int32 × wd_S)) (l1 : Int32) (l2 : Int32) (l3 : Int32) (S : wd_S) : Option (Int32 × wd_S) :=
  (wd_d (fn_Reader_takeKind l3 S) fun S5 =>
  (if tp_t (S5.2.2.1 47 2) = (0, 8) then
    (wd_c (slf 50 l1 0 S5) fun x10 S9 =>
    (wd_c (fn_Trees_join (S5.2.2.1 47 2) l3 l2 x10 S9) fun x13 S12 =>
    some (x13, S12)))
  else none))
set_option maxRecDepth 100000 in
theorem sn_Reader_takeComparison_25 {L : Nat} {xs : Nat → Int32} {D : Nat} {slf : Nat → Int32 → Int32 → wd_S → Option (Int32 × wd_S)} (hD : 4 ≤ D) (hs43 : ∀ {a b : Int32} {S : wd_S} {x : Int32} {S' : wd_S}, slf 43 a b S = some (x, S') → ev_r tb_P L xs D 43 [.ref 47, .int a] (wd_k S) (.inl (some (.int x)), wd_k S')) (hs45 : ∀ {a b : Int32} {S : wd_S} {x : Int32} {S' : wd_S}, slf 45 a b S = some (x, S') → ev_r tb_P L xs D 45 [.ref 47, .int a] (wd_k S) (.inl (some (.int x)), wd_k S')) (hs48 : ∀ {a b : Int32} {S : wd_S} {x : Int32} {S' : wd_S}, slf 48 a b S = some (x, S') → ev_r tb_P L xs D 48 [.ref 47, .int a] (wd_k S) (.inl (some (.int x)), wd_k S')) (hs49 : ∀ {a b : Int32} {S : wd_S} {x : Int32} {S' : wd_S}, slf 49 a b S = some (x, S') → ev_r tb_P L xs D 49 [.ref 47, .int a] (wd_k S) (.inl (some (.int x)), wd_k S')) (hs50 : ∀ {a b : Int32} {S : wd_S} {x : Int32} {S' : wd_S}, slf 50 a b S = some (x, S') → ev_r tb_P L xs D 50 [.ref 47, .int a] (wd_k S) (.inl (some (.int x)), wd_k S')) (hs51 : ∀ {a b : Int32} {S : wd_S} {x : Int32} {S' : wd_S}, slf 51 a b S = some (x, S') → ev_r tb_P L xs D 51 [.ref 47, .int a] (wd_k S) (.inl (some (.int x)), wd_k S')) (hs52 : ∀ {a b : Int32} {S : wd_S} {x : Int32} {S' : wd_S}, slf 52 a b S = some (x, S') → ev_r tb_P L xs D 52 [.ref 47, .int a] (wd_k S) (.inl (some (.int x)), wd_k S')) (hs54 : ∀ {a b : Int32} {S : wd_S} {x : Int32} {S' : wd_S}, slf 54 a b S = some (x, S') → ev_r tb_P L xs D 54 [.ref 47, .int a, .int b] (wd_k S) (.inl (some (.int x)), wd_k S')) {l1 : Int32} {l2 : Int32} {l3 : Int32} {S : wd_S} {x : Int32} {S' : wd_S} (h : fn_Reader_takeComparison_25 slf l1 l2 l3 S = some (x, S')) : go_r tb_P L xs D 49 25 [(0, .ref 47), (1, .int l1), (2, .int l2), (3, .int l3)] [] (wd_k S) (.inl (some (.int x)), wd_k S') := by
  unfold fn_Reader_takeComparison_25 at h
  refine bk_b (q := (27, [(0, .ref 47), (1, .int l1), (2, .int l2), (3, .int l3)], [.int l3, .ref 47])) tb_c_49_0 mx_49 2 rfl ?_
  obtain ⟨S5, c7, h⟩ := wd_dx h
  refine bk_kv tb_c_49_0 rfl rfl rfl rfl rfl (ci := 4) rfl rfl (ev_up (Nat.le_trans (Nat.le_of_ble_eq_true rfl) hD) (sn_Reader_takeKind c7)) ?_
  refine bk_b (q := (31, [(0, .ref 47), (1, .int l1), (2, .int l2), (3, .int l3)], [.ref 47])) tb_c_49_0 mx_49 1 rfl ?_
  refine bk_gm tb_c_49_0 rfl rfl (ci := 4) (k := 2) rfl rfl rfl ?_
  by_cases g8 : tp_t (S5.2.2.1 47 2) = (0, 8)
  · rw [if_pos g8] at h
    refine bk_b (q := (38, [(0, .ref 47), (1, .int l1), (2, .int l2), (3, .int l3)], [.int l1, .ref 47, .int l2, .int l3, .ref (S5.2.2.1 47 2)])) tb_c_49_0 mx_49 4 rfl ?_
    obtain ⟨x10, S9, c11, h⟩ := wd_cx h
    refine bk_kv tb_c_49_0 rfl rfl rfl rfl rfl (ci := 4) rfl rfl (hs50 (b := 0) c11) ?_
    obtain ⟨x13, S12, c14, h⟩ := wd_cx h
    refine bk_kv tb_c_49_0 rfl rfl rfl rfl rfl (ci := 8) g8 rfl (ev_up (Nat.le_trans (Nat.le_of_ble_eq_true rfl) hD) (sn_Trees_join g8 c14)) ?_
    cases h
    exact bk_t tb_c_49_0 rfl rfl
  · rw [if_neg g8] at h; cases h
/-- Specialiser$Reader.takeComparison(I)I -/
noncomputable def fn_Reader_takeComparison (slf : Nat → Int32 → Int32 → wd_S → Option (Int32 × wd_S)) (p1 : Int32) (S : wd_S) : Option (Int32 × wd_S) :=
  (wd_c (slf 50 p1 0 S) fun x2 S1 =>
  (if (S1.1 47 4) = (9 : Int32) then
    fn_Reader_takeComparison_25 slf p1 x2 (S1.1 47 4) S1
  else
    (if (S1.1 47 4) = (10 : Int32) then
      fn_Reader_takeComparison_25 slf p1 x2 (S1.1 47 4) S1
    else
      some (x2, S1))))
set_option maxRecDepth 100000 in
theorem sn_Reader_takeComparison {L : Nat} {xs : Nat → Int32} {D : Nat} {slf : Nat → Int32 → Int32 → wd_S → Option (Int32 × wd_S)} (hD : 4 ≤ D) (hs43 : ∀ {a b : Int32} {S : wd_S} {x : Int32} {S' : wd_S}, slf 43 a b S = some (x, S') → ev_r tb_P L xs D 43 [.ref 47, .int a] (wd_k S) (.inl (some (.int x)), wd_k S')) (hs45 : ∀ {a b : Int32} {S : wd_S} {x : Int32} {S' : wd_S}, slf 45 a b S = some (x, S') → ev_r tb_P L xs D 45 [.ref 47, .int a] (wd_k S) (.inl (some (.int x)), wd_k S')) (hs48 : ∀ {a b : Int32} {S : wd_S} {x : Int32} {S' : wd_S}, slf 48 a b S = some (x, S') → ev_r tb_P L xs D 48 [.ref 47, .int a] (wd_k S) (.inl (some (.int x)), wd_k S')) (hs49 : ∀ {a b : Int32} {S : wd_S} {x : Int32} {S' : wd_S}, slf 49 a b S = some (x, S') → ev_r tb_P L xs D 49 [.ref 47, .int a] (wd_k S) (.inl (some (.int x)), wd_k S')) (hs50 : ∀ {a b : Int32} {S : wd_S} {x : Int32} {S' : wd_S}, slf 50 a b S = some (x, S') → ev_r tb_P L xs D 50 [.ref 47, .int a] (wd_k S) (.inl (some (.int x)), wd_k S')) (hs51 : ∀ {a b : Int32} {S : wd_S} {x : Int32} {S' : wd_S}, slf 51 a b S = some (x, S') → ev_r tb_P L xs D 51 [.ref 47, .int a] (wd_k S) (.inl (some (.int x)), wd_k S')) (hs52 : ∀ {a b : Int32} {S : wd_S} {x : Int32} {S' : wd_S}, slf 52 a b S = some (x, S') → ev_r tb_P L xs D 52 [.ref 47, .int a] (wd_k S) (.inl (some (.int x)), wd_k S')) (hs54 : ∀ {a b : Int32} {S : wd_S} {x : Int32} {S' : wd_S}, slf 54 a b S = some (x, S') → ev_r tb_P L xs D 54 [.ref 47, .int a, .int b] (wd_k S) (.inl (some (.int x)), wd_k S')) {p1 : Int32} {S : wd_S} {x : Int32} {S' : wd_S} (h : fn_Reader_takeComparison slf p1 S = some (x, S')) : ev_r tb_P L xs (D + 1) 49 [.ref 47, .int p1] (wd_k S) (.inl (some (.int x)), wd_k S') := by
  unfold fn_Reader_takeComparison at h
  refine ev_of (Nat.le_of_ble_eq_true rfl) ?_
  show go_r tb_P L xs D 49 0 [(0, .ref 47), (1, .int p1)] [] (wd_k S) (.inl (some (.int x)), wd_k S')
  refine bk_b (q := (2, [(0, .ref 47), (1, .int p1)], [.int p1, .ref 47])) tb_c_49_0 mx_49 2 rfl ?_
  obtain ⟨x2, S1, c3, h⟩ := wd_cx h
  refine bk_kv tb_c_49_0 rfl rfl rfl rfl rfl (ci := 4) rfl rfl (hs50 (b := 0) c3) ?_
  refine bk_b (q := (7, [(2, .int x2), (0, .ref 47), (1, .int p1)], [.ref 47])) tb_c_49_0 mx_49 2 rfl ?_
  refine bk_gi tb_c_49_0 rfl rfl (ci := 4) (k := 4) rfl rfl rfl ?_
  refine bk_b (q := (14, [(3, .int (S1.1 47 4)), (2, .int x2), (0, .ref 47), (1, .int p1)], [.int (9 : Int32), .int (S1.1 47 4)])) tb_c_49_0 mx_49 3 rfl ?_
  by_cases g4 : (S1.1 47 4) = (9 : Int32)
  · rw [if_pos g4] at h
    refine bk_jt tb_c_49_0 rfl (pc' := 25) rfl (cm_eq_t g4) ?_
    exact go_lv (ls_sc rfl rfl (ls_sc rfl rfl (ls_sc rfl rfl (ls_sc rfl rfl ls_nil)))) (sn_Reader_takeComparison_25 hD hs43 hs45 hs48 hs49 hs50 hs51 hs52 hs54 h)
  · rw [if_neg g4] at h
    refine bk_jf tb_c_49_0 rfl (pc' := 17) rfl (t := 25) rfl (cm_eq_f g4) ?_
    refine bk_b (q := (20, [(3, .int (S1.1 47 4)), (2, .int x2), (0, .ref 47), (1, .int p1)], [.int (10 : Int32), .int (S1.1 47 4)])) tb_c_49_0 mx_49 2 rfl ?_
    by_cases g15 : (S1.1 47 4) = (10 : Int32)
    · rw [if_pos g15] at h
      refine bk_jt tb_c_49_0 rfl (pc' := 25) rfl (cm_eq_t g15) ?_
      exact go_lv (ls_sc rfl rfl (ls_sc rfl rfl (ls_sc rfl rfl (ls_sc rfl rfl ls_nil)))) (sn_Reader_takeComparison_25 hD hs43 hs45 hs48 hs49 hs50 hs51 hs52 hs54 h)
    · rw [if_neg g15] at h
      refine bk_jf tb_c_49_0 rfl (pc' := 23) rfl (t := 25) rfl (cm_eq_f g15) ?_
      refine bk_b (q := (24, [(3, .int (S1.1 47 4)), (2, .int x2), (0, .ref 47), (1, .int p1)], [.int x2])) tb_c_49_0 mx_49 1 rfl ?_
      cases h
      exact bk_t tb_c_49_0 rfl rfl
theorem mx_43 : mi_mx tb_P 43 = 2 := rfl
/-- Specialiser$Reader.takeE(I)I -/
noncomputable def fn_Reader_takeE (slf : Nat → Int32 → Int32 → wd_S → Option (Int32 × wd_S)) (p1 : Int32) (S : wd_S) : Option (Int32 × wd_S) :=
  (if p1 < (24 : Int32) then
    (if (S.1 47 4) = (3 : Int32) then
      (wd_c (slf 45 p1 0 S) fun x4 S3 =>
      some (x4, S3))
    else
    (if (S.1 47 4) = (4 : Int32) then
      (wd_c (slf 48 p1 0 S) fun x8 S7 =>
      some (x8, S7))
    else
    (wd_c (slf 49 p1 0 S) fun x11 S10 =>
    some (x11, S10))))
  else
    (wd_d (fn_Reader_refuseWithin  S) fun S13 =>
    some ((0 : Int32), S13)))
set_option maxRecDepth 100000 in
theorem sn_Reader_takeE {L : Nat} {xs : Nat → Int32} {D : Nat} {slf : Nat → Int32 → Int32 → wd_S → Option (Int32 × wd_S)} (hD : 4 ≤ D) (hs43 : ∀ {a b : Int32} {S : wd_S} {x : Int32} {S' : wd_S}, slf 43 a b S = some (x, S') → ev_r tb_P L xs D 43 [.ref 47, .int a] (wd_k S) (.inl (some (.int x)), wd_k S')) (hs45 : ∀ {a b : Int32} {S : wd_S} {x : Int32} {S' : wd_S}, slf 45 a b S = some (x, S') → ev_r tb_P L xs D 45 [.ref 47, .int a] (wd_k S) (.inl (some (.int x)), wd_k S')) (hs48 : ∀ {a b : Int32} {S : wd_S} {x : Int32} {S' : wd_S}, slf 48 a b S = some (x, S') → ev_r tb_P L xs D 48 [.ref 47, .int a] (wd_k S) (.inl (some (.int x)), wd_k S')) (hs49 : ∀ {a b : Int32} {S : wd_S} {x : Int32} {S' : wd_S}, slf 49 a b S = some (x, S') → ev_r tb_P L xs D 49 [.ref 47, .int a] (wd_k S) (.inl (some (.int x)), wd_k S')) (hs50 : ∀ {a b : Int32} {S : wd_S} {x : Int32} {S' : wd_S}, slf 50 a b S = some (x, S') → ev_r tb_P L xs D 50 [.ref 47, .int a] (wd_k S) (.inl (some (.int x)), wd_k S')) (hs51 : ∀ {a b : Int32} {S : wd_S} {x : Int32} {S' : wd_S}, slf 51 a b S = some (x, S') → ev_r tb_P L xs D 51 [.ref 47, .int a] (wd_k S) (.inl (some (.int x)), wd_k S')) (hs52 : ∀ {a b : Int32} {S : wd_S} {x : Int32} {S' : wd_S}, slf 52 a b S = some (x, S') → ev_r tb_P L xs D 52 [.ref 47, .int a] (wd_k S) (.inl (some (.int x)), wd_k S')) (hs54 : ∀ {a b : Int32} {S : wd_S} {x : Int32} {S' : wd_S}, slf 54 a b S = some (x, S') → ev_r tb_P L xs D 54 [.ref 47, .int a, .int b] (wd_k S) (.inl (some (.int x)), wd_k S')) {p1 : Int32} {S : wd_S} {x : Int32} {S' : wd_S} (h : fn_Reader_takeE slf p1 S = some (x, S')) : ev_r tb_P L xs (D + 1) 43 [.ref 47, .int p1] (wd_k S) (.inl (some (.int x)), wd_k S') := by
  unfold fn_Reader_takeE at h
  refine ev_of (Nat.le_of_ble_eq_true rfl) ?_
  show go_r tb_P L xs D 43 0 [(0, .ref 47), (1, .int p1)] [] (wd_k S) (.inl (some (.int x)), wd_k S')
  refine bk_b (q := (3, [(0, .ref 47), (1, .int p1)], [.int (24 : Int32), .int p1])) tb_c_43_0 mx_43 2 rfl ?_
  by_cases g1 : p1 < (24 : Int32)
  · rw [if_pos g1] at h
    refine bk_jt tb_c_43_0 rfl (pc' := 12) rfl (cm_lt_t g1) ?_
    refine bk_b (q := (13, [(0, .ref 47), (1, .int p1)], [.ref 47])) tb_c_43_0 mx_43 1 rfl ?_
    refine bk_gi tb_c_43_0 rfl rfl (ci := 4) (k := 4) rfl rfl rfl ?_
    by_cases g2 : (S.1 47 4) = (3 : Int32)
    · rw [if_pos g2] at h
      refine bk_sw tb_c_43_0 rfl (pc' := 44) (by rw [g2]; rfl) ?_
      refine bk_b (q := (46, [(0, .ref 47), (1, .int p1)], [.int p1, .ref 47])) tb_c_43_0 mx_43 2 rfl ?_
      obtain ⟨x4, S3, c5, h⟩ := wd_cx h
      refine bk_kv tb_c_43_0 rfl rfl rfl rfl rfl (ci := 4) rfl rfl (hs45 (b := 0) c5) ?_
      cases h
      exact bk_t tb_c_43_0 rfl rfl
    · rw [if_neg g2] at h
      by_cases g6 : (S.1 47 4) = (4 : Int32)
      · rw [if_pos g6] at h
        refine bk_sw tb_c_43_0 rfl (pc' := 50) (by rw [g6]; rfl) ?_
        refine bk_b (q := (52, [(0, .ref 47), (1, .int p1)], [.int p1, .ref 47])) tb_c_43_0 mx_43 2 rfl ?_
        obtain ⟨x8, S7, c9, h⟩ := wd_cx h
        refine bk_kv tb_c_43_0 rfl rfl rfl rfl rfl (ci := 4) rfl rfl (hs48 (b := 0) c9) ?_
        cases h
        exact bk_t tb_c_43_0 rfl rfl
      · rw [if_neg g6] at h
        refine bk_sw tb_c_43_0 rfl (pc' := 56) (by refine sw_l (t := 56) rfl ?_ rfl; exact ⟨g2, g6, trivial⟩) ?_
        refine bk_b (q := (58, [(0, .ref 47), (1, .int p1)], [.int p1, .ref 47])) tb_c_43_0 mx_43 2 rfl ?_
        obtain ⟨x11, S10, c12, h⟩ := wd_cx h
        refine bk_kv tb_c_43_0 rfl rfl rfl rfl rfl (ci := 4) rfl rfl (hs49 (b := 0) c12) ?_
        cases h
        exact bk_t tb_c_43_0 rfl rfl
  · rw [if_neg g1] at h
    refine bk_jf tb_c_43_0 rfl (pc' := 6) rfl (t := 12) rfl (cm_lt_f g1) ?_
    refine bk_b (q := (7, [(0, .ref 47), (1, .int p1)], [.ref 47])) tb_c_43_0 mx_43 1 rfl ?_
    obtain ⟨S13, c15, h⟩ := wd_dx h
    refine bk_kv tb_c_43_0 rfl rfl rfl rfl rfl (ci := 4) rfl rfl (ev_up (Nat.le_trans (Nat.le_of_ble_eq_true rfl) hD) (sn_Reader_refuseWithin c15)) ?_
    refine bk_b (q := (11, [(0, .ref 47), (1, .int p1)], [.int (0 : Int32)])) tb_c_43_0 mx_43 1 rfl ?_
    cases h
    exact bk_t tb_c_43_0 rfl rfl
noncomputable def rc_Reader_takeE : Nat → Nat → Int32 → Int32 → wd_S → Option (Int32 × wd_S)
  | 0, _, _, _, _ => none
  | n + 1, t, a, b, S => if t = 43 then fn_Reader_takeE (rc_Reader_takeE n) a S else if t = 45 then fn_Reader_takeLet (rc_Reader_takeE n) a S else if t = 48 then fn_Reader_takeIf (rc_Reader_takeE n) a S else if t = 49 then fn_Reader_takeComparison (rc_Reader_takeE n) a S else if t = 50 then fn_Reader_takeSum (rc_Reader_takeE n) a S else if t = 51 then fn_Reader_takeProduct (rc_Reader_takeE n) a S else if t = 52 then fn_Reader_takeAtom (rc_Reader_takeE n) a S else if t = 54 then fn_Reader_takeCall (rc_Reader_takeE n) a b S else none
theorem rc_Reader_takeE_ok {L : Nat} {xs : Nat → Int32} : ∀ n : Nat, (∀ {a b : Int32} {S : wd_S} {x : Int32} {S' : wd_S}, rc_Reader_takeE n 43 a b S = some (x, S') → ev_r tb_P L xs (n + 4) 43 [.ref 47, .int a] (wd_k S) (.inl (some (.int x)), wd_k S')) ∧ (∀ {a b : Int32} {S : wd_S} {x : Int32} {S' : wd_S}, rc_Reader_takeE n 45 a b S = some (x, S') → ev_r tb_P L xs (n + 4) 45 [.ref 47, .int a] (wd_k S) (.inl (some (.int x)), wd_k S')) ∧ (∀ {a b : Int32} {S : wd_S} {x : Int32} {S' : wd_S}, rc_Reader_takeE n 48 a b S = some (x, S') → ev_r tb_P L xs (n + 4) 48 [.ref 47, .int a] (wd_k S) (.inl (some (.int x)), wd_k S')) ∧ (∀ {a b : Int32} {S : wd_S} {x : Int32} {S' : wd_S}, rc_Reader_takeE n 49 a b S = some (x, S') → ev_r tb_P L xs (n + 4) 49 [.ref 47, .int a] (wd_k S) (.inl (some (.int x)), wd_k S')) ∧ (∀ {a b : Int32} {S : wd_S} {x : Int32} {S' : wd_S}, rc_Reader_takeE n 50 a b S = some (x, S') → ev_r tb_P L xs (n + 4) 50 [.ref 47, .int a] (wd_k S) (.inl (some (.int x)), wd_k S')) ∧ (∀ {a b : Int32} {S : wd_S} {x : Int32} {S' : wd_S}, rc_Reader_takeE n 51 a b S = some (x, S') → ev_r tb_P L xs (n + 4) 51 [.ref 47, .int a] (wd_k S) (.inl (some (.int x)), wd_k S')) ∧ (∀ {a b : Int32} {S : wd_S} {x : Int32} {S' : wd_S}, rc_Reader_takeE n 52 a b S = some (x, S') → ev_r tb_P L xs (n + 4) 52 [.ref 47, .int a] (wd_k S) (.inl (some (.int x)), wd_k S')) ∧ (∀ {a b : Int32} {S : wd_S} {x : Int32} {S' : wd_S}, rc_Reader_takeE n 54 a b S = some (x, S') → ev_r tb_P L xs (n + 4) 54 [.ref 47, .int a, .int b] (wd_k S) (.inl (some (.int x)), wd_k S')) := by
  intro n
  induction n with
  | zero => exact ⟨(fun h => by cases h), (fun h => by cases h), (fun h => by cases h), (fun h => by cases h), (fun h => by cases h), (fun h => by cases h), (fun h => by cases h), (fun h => by cases h)⟩
  | succ n ih =>
    obtain ⟨i43, i45, i48, i49, i50, i51, i52, i54⟩ := ih
    refine ⟨?_, ?_, ?_, ?_, ?_, ?_, ?_, ?_⟩
    · intro a b S x S' h
      have h : fn_Reader_takeE (rc_Reader_takeE n) a S = some (x, S') := h
      rw [show n + 1 + 4 = n + 4 + 1 by omega]
      exact sn_Reader_takeE (Nat.le_add_left _ _) i43 i45 i48 i49 i50 i51 i52 i54 h
    · intro a b S x S' h
      have h : fn_Reader_takeLet (rc_Reader_takeE n) a S = some (x, S') := h
      rw [show n + 1 + 4 = n + 4 + 1 by omega]
      exact sn_Reader_takeLet (Nat.le_add_left _ _) i43 i45 i48 i49 i50 i51 i52 i54 h
    · intro a b S x S' h
      have h : fn_Reader_takeIf (rc_Reader_takeE n) a S = some (x, S') := h
      rw [show n + 1 + 4 = n + 4 + 1 by omega]
      exact sn_Reader_takeIf (Nat.le_add_left _ _) i43 i45 i48 i49 i50 i51 i52 i54 h
    · intro a b S x S' h
      have h : fn_Reader_takeComparison (rc_Reader_takeE n) a S = some (x, S') := h
      rw [show n + 1 + 4 = n + 4 + 1 by omega]
      exact sn_Reader_takeComparison (Nat.le_add_left _ _) i43 i45 i48 i49 i50 i51 i52 i54 h
    · intro a b S x S' h
      have h : fn_Reader_takeSum (rc_Reader_takeE n) a S = some (x, S') := h
      rw [show n + 1 + 4 = n + 4 + 1 by omega]
      exact sn_Reader_takeSum (Nat.le_add_left _ _) i43 i45 i48 i49 i50 i51 i52 i54 h
    · intro a b S x S' h
      have h : fn_Reader_takeProduct (rc_Reader_takeE n) a S = some (x, S') := h
      rw [show n + 1 + 4 = n + 4 + 1 by omega]
      exact sn_Reader_takeProduct (Nat.le_add_left _ _) i43 i45 i48 i49 i50 i51 i52 i54 h
    · intro a b S x S' h
      have h : fn_Reader_takeAtom (rc_Reader_takeE n) a S = some (x, S') := h
      rw [show n + 1 + 4 = n + 4 + 1 by omega]
      exact sn_Reader_takeAtom (Nat.le_add_left _ _) i43 i45 i48 i49 i50 i51 i52 i54 h
    · intro a b S x S' h
      have h : fn_Reader_takeCall (rc_Reader_takeE n) a b S = some (x, S') := h
      rw [show n + 1 + 4 = n + 4 + 1 by omega]
      exact sn_Reader_takeCall (Nat.le_add_left _ _) i43 i45 i48 i49 i50 i51 i52 i54 h
theorem rc_Reader_takeE_43 {L : Nat} {xs : Nat → Int32} (n : Nat) : ∀ {a b : Int32} {S : wd_S} {x : Int32} {S' : wd_S}, rc_Reader_takeE n 43 a b S = some (x, S') → ev_r tb_P L xs (n + 4) 43 [.ref 47, .int a] (wd_k S) (.inl (some (.int x)), wd_k S') := (rc_Reader_takeE_ok n).1
theorem rc_Reader_takeE_45 {L : Nat} {xs : Nat → Int32} (n : Nat) : ∀ {a b : Int32} {S : wd_S} {x : Int32} {S' : wd_S}, rc_Reader_takeE n 45 a b S = some (x, S') → ev_r tb_P L xs (n + 4) 45 [.ref 47, .int a] (wd_k S) (.inl (some (.int x)), wd_k S') := (rc_Reader_takeE_ok n).2.1
theorem rc_Reader_takeE_48 {L : Nat} {xs : Nat → Int32} (n : Nat) : ∀ {a b : Int32} {S : wd_S} {x : Int32} {S' : wd_S}, rc_Reader_takeE n 48 a b S = some (x, S') → ev_r tb_P L xs (n + 4) 48 [.ref 47, .int a] (wd_k S) (.inl (some (.int x)), wd_k S') := (rc_Reader_takeE_ok n).2.2.1
theorem rc_Reader_takeE_49 {L : Nat} {xs : Nat → Int32} (n : Nat) : ∀ {a b : Int32} {S : wd_S} {x : Int32} {S' : wd_S}, rc_Reader_takeE n 49 a b S = some (x, S') → ev_r tb_P L xs (n + 4) 49 [.ref 47, .int a] (wd_k S) (.inl (some (.int x)), wd_k S') := (rc_Reader_takeE_ok n).2.2.2.1
theorem rc_Reader_takeE_50 {L : Nat} {xs : Nat → Int32} (n : Nat) : ∀ {a b : Int32} {S : wd_S} {x : Int32} {S' : wd_S}, rc_Reader_takeE n 50 a b S = some (x, S') → ev_r tb_P L xs (n + 4) 50 [.ref 47, .int a] (wd_k S) (.inl (some (.int x)), wd_k S') := (rc_Reader_takeE_ok n).2.2.2.2.1
theorem rc_Reader_takeE_51 {L : Nat} {xs : Nat → Int32} (n : Nat) : ∀ {a b : Int32} {S : wd_S} {x : Int32} {S' : wd_S}, rc_Reader_takeE n 51 a b S = some (x, S') → ev_r tb_P L xs (n + 4) 51 [.ref 47, .int a] (wd_k S) (.inl (some (.int x)), wd_k S') := (rc_Reader_takeE_ok n).2.2.2.2.2.1
theorem rc_Reader_takeE_52 {L : Nat} {xs : Nat → Int32} (n : Nat) : ∀ {a b : Int32} {S : wd_S} {x : Int32} {S' : wd_S}, rc_Reader_takeE n 52 a b S = some (x, S') → ev_r tb_P L xs (n + 4) 52 [.ref 47, .int a] (wd_k S) (.inl (some (.int x)), wd_k S') := (rc_Reader_takeE_ok n).2.2.2.2.2.2.1
theorem rc_Reader_takeE_54 {L : Nat} {xs : Nat → Int32} (n : Nat) : ∀ {a b : Int32} {S : wd_S} {x : Int32} {S' : wd_S}, rc_Reader_takeE n 54 a b S = some (x, S') → ev_r tb_P L xs (n + 4) 54 [.ref 47, .int a, .int b] (wd_k S) (.inl (some (.int x)), wd_k S') := (rc_Reader_takeE_ok n).2.2.2.2.2.2.2
theorem mx_57 : mi_mx tb_P 57 = 3 := rfl
/-- Specialiser$Bodies.setRoot(II)V -/
noncomputable def fn_Bodies_setRoot (p0 : Nat) (p1 : Int32) (p2 : Int32) (S : wd_S) : Option wd_S :=
  (wd_d (fn_Row_put (p0 + 14) p1 p2 S) fun S1 =>
  some S1)
set_option maxRecDepth 100000 in
theorem sn_Bodies_setRoot {L : Nat} {xs : Nat → Int32} {p0 : Nat} {p1 : Int32} {p2 : Int32} {S : wd_S} {S' : wd_S} (hp0 : tp_t p0 = (0, 0)) (h : fn_Bodies_setRoot p0 p1 p2 S = some S') : ev_r tb_P L xs (1 + 1) 57 [.ref p0, .int p1, .int p2] (wd_k S) (.inl none, wd_k S') := by
  unfold fn_Bodies_setRoot at h
  refine ev_of (Nat.le_of_ble_eq_true rfl) ?_
  show go_r tb_P L xs 1 57 0 [(0, .ref p0), (1, .int p1), (2, .int p2)] [] (wd_k S) (.inl none, wd_k S')
  refine bk_b (q := (1, [(0, .ref p0), (1, .int p1), (2, .int p2)], [.ref p0])) tb_c_57_0 mx_57 1 rfl ?_
  refine bk_go tb_c_57_0 rfl rfl (ci := 0) (k := 1) rfl hp0 rfl ?_
  refine bk_b (q := (6, [(0, .ref p0), (1, .int p1), (2, .int p2)], [.int p2, .int p1, .ref (p0 + 14)])) tb_c_57_0 mx_57 2 rfl ?_
  obtain ⟨S1, c3, h⟩ := wd_dx h
  refine bk_kv tb_c_57_0 rfl rfl rfl rfl rfl (ci := 5) (tp_0_1 hp0) rfl (ev_up (Nat.le_of_ble_eq_true rfl) (sn_Row_put (tp_0_1 hp0) c3)) ?_
  cases h
  exact bk_t tb_c_57_0 rfl rfl
theorem mx_31 : mi_mx tb_P 31 = 4 := rfl
noncomputable def fn_Reader_takeFunction_124 (S : wd_S) : Option wd_S :=
  (wd_d (fn_Reader_takeKind (16 : Int32) S) fun S25 =>
  (wd_d (fn_Reader_takeKind (14 : Int32) S25) fun S28 =>
  (if tp_t (S28.2.2.1 47 1) = (0, 0) then
    (wd_c (fn_Bodies_add (S28.2.2.1 47 1) (S28.1 47 8) S28) fun x33 S32 =>
    (if tp_t (S32.2.2.1 47 1) = (0, 0) then
      (wd_c (rc_Reader_takeE 200 43 (0 : Int32) 0 S32) fun x37 S36 =>
      (wd_d (fn_Bodies_setRoot (S32.2.2.1 47 1) x33 x37 S36) fun S39 =>
      (wd_d (fn_Reader_takeKind (18 : Int32) S39) fun S42 =>
      some S42)))
    else none))
  else none)))
set_option maxRecDepth 100000 in
theorem sn_Reader_takeFunction_124 {L : Nat} {xs : Nat → Int32} {S : wd_S} {S' : wd_S} (h : fn_Reader_takeFunction_124  S = some S') : go_r tb_P L xs 204 31 124 [(0, .ref 47)] [] (wd_k S) (.inl none, wd_k S') := by
  unfold fn_Reader_takeFunction_124 at h
  refine bk_b (q := (127, [(0, .ref 47)], [.int (16 : Int32), .ref 47])) tb_c_31_1 mx_31 2 rfl ?_
  obtain ⟨S25, c27, h⟩ := wd_dx h
  refine bk_kv tb_c_31_1 rfl rfl rfl rfl rfl (ci := 4) rfl rfl (ev_up (Nat.le_of_ble_eq_true rfl) (sn_Reader_takeKind c27)) ?_
  refine bk_b (q := (133, [(0, .ref 47)], [.int (14 : Int32), .ref 47])) tb_c_31_1 mx_31 2 rfl ?_
  obtain ⟨S28, c30, h⟩ := wd_dx h
  refine bk_kv tb_c_31_1 rfl rfl rfl rfl rfl (ci := 4) rfl rfl (ev_up (Nat.le_of_ble_eq_true rfl) (sn_Reader_takeKind c30)) ?_
  refine bk_b (q := (137, [(0, .ref 47)], [.ref 47])) tb_c_31_1 mx_31 1 rfl ?_
  refine bk_gm tb_c_31_1 rfl rfl (ci := 4) (k := 1) rfl rfl rfl ?_
  by_cases g31 : tp_t (S28.2.2.1 47 1) = (0, 0)
  · rw [if_pos g31] at h
    refine bk_b (q := (141, [(0, .ref 47)], [.ref 47, .ref (S28.2.2.1 47 1)])) tb_c_31_1 mx_31 1 rfl ?_
    refine bk_gi tb_c_31_1 rfl rfl (ci := 4) (k := 8) rfl rfl rfl ?_
    obtain ⟨x33, S32, c34, h⟩ := wd_cx h
    refine bk_kv tb_c_31_1 rfl rfl rfl rfl rfl (ci := 0) g31 rfl (ev_up (Nat.le_of_ble_eq_true rfl) (sn_Bodies_add g31 c34)) ?_
    refine bk_b (q := (149, [(3, .int x33), (0, .ref 47)], [.ref 47])) tb_c_31_1 mx_31 2 rfl ?_
    refine bk_gm tb_c_31_1 rfl rfl (ci := 4) (k := 1) rfl rfl rfl ?_
    by_cases g35 : tp_t (S32.2.2.1 47 1) = (0, 0)
    · rw [if_pos g35] at h
      refine bk_b (q := (155, [(3, .int x33), (0, .ref 47)], [.int (0 : Int32), .ref 47, .int x33, .ref (S32.2.2.1 47 1)])) tb_c_31_1 mx_31 3 rfl ?_
      obtain ⟨x37, S36, c38, h⟩ := wd_cx h
      refine bk_kv tb_c_31_2 rfl rfl rfl rfl rfl (ci := 4) rfl rfl (ev_up (Nat.le_of_ble_eq_true rfl) (rc_Reader_takeE_43 200 c38)) ?_
      obtain ⟨S39, c41, h⟩ := wd_dx h
      refine bk_kv tb_c_31_2 rfl rfl rfl rfl rfl (ci := 0) g35 rfl (ev_up (Nat.le_of_ble_eq_true rfl) (sn_Bodies_setRoot g35 c41)) ?_
      refine bk_b (q := (164, [(3, .int x33), (0, .ref 47)], [.int (18 : Int32), .ref 47])) tb_c_31_2 mx_31 2 rfl ?_
      obtain ⟨S42, c44, h⟩ := wd_dx h
      refine bk_kv tb_c_31_2 rfl rfl rfl rfl rfl (ci := 4) rfl rfl (ev_up (Nat.le_of_ble_eq_true rfl) (sn_Reader_takeKind c44)) ?_
      cases h
      exact bk_t tb_c_31_2 rfl rfl
    · rw [if_neg g35] at h; cases h
  · rw [if_neg g31] at h; cases h
noncomputable def fn_Reader_takeFunction_92 : Nat → Int32 → wd_S → Option wd_S
  | 0, _, _ => none
  | n + 1, l3, S =>
    (if l3 < (1500 : Int32) then
      (if (S.1 47 4) = (17 : Int32) then
        (wd_d (fn_Reader_takeKind (17 : Int32) S) fun S50 =>
        (wd_d (fn_Reader_takeParam  S50) fun S53 =>
        fn_Reader_takeFunction_92 n (l3 + (1 : Int32)) S53))
      else
        fn_Reader_takeFunction_124  S)
    else
      fn_Reader_takeFunction_124  S)
set_option maxRecDepth 100000 in
theorem sn_Reader_takeFunction_92 {L : Nat} {xs : Nat → Int32} : ∀ (n : Nat) {l3 : Int32} {S : wd_S} {S' : wd_S}, fn_Reader_takeFunction_92 n l3 S = some S' → go_r tb_P L xs 204 31 92 [(0, .ref 47), (3, .int l3)] [] (wd_k S) (.inl none, wd_k S') := by
  intro n
  induction n with
  | zero => intro l3 S S'  h; cases h
  | succ n ih =>
    intro l3 S S'  h
    rw [fn_Reader_takeFunction_92] at h
    refine bk_b (q := (96, [(0, .ref 47), (3, .int l3)], [.int (1500 : Int32), .int l3])) tb_c_31_1 mx_31 2 rfl ?_
    by_cases g48 : l3 < (1500 : Int32)
    · rw [if_pos g48] at h
      refine bk_jf tb_c_31_1 rfl (pc' := 99) rfl (t := 124) rfl (cm_ge_f g48) ?_
      refine bk_b (q := (100, [(0, .ref 47), (3, .int l3)], [.ref 47])) tb_c_31_1 mx_31 1 rfl ?_
      refine bk_gi tb_c_31_1 rfl rfl (ci := 4) (k := 4) rfl rfl rfl ?_
      refine bk_b (q := (105, [(0, .ref 47), (3, .int l3)], [.int (17 : Int32), .int (S.1 47 4)])) tb_c_31_1 mx_31 1 rfl ?_
      by_cases g49 : (S.1 47 4) = (17 : Int32)
      · rw [if_pos g49] at h
        refine bk_jf tb_c_31_1 rfl (pc' := 108) rfl (t := 124) rfl (cm_ne_f g49) ?_
        refine bk_b (q := (111, [(0, .ref 47), (3, .int l3)], [.int (17 : Int32), .ref 47])) tb_c_31_1 mx_31 2 rfl ?_
        obtain ⟨S50, c52, h⟩ := wd_dx h
        refine bk_kv tb_c_31_1 rfl rfl rfl rfl rfl (ci := 4) rfl rfl (ev_up (Nat.le_of_ble_eq_true rfl) (sn_Reader_takeKind c52)) ?_
        refine bk_b (q := (115, [(0, .ref 47), (3, .int l3)], [.ref 47])) tb_c_31_1 mx_31 1 rfl ?_
        obtain ⟨S53, c55, h⟩ := wd_dx h
        refine bk_kv tb_c_31_1 rfl rfl rfl rfl rfl (ci := 4) rfl rfl (ev_up (Nat.le_of_ble_eq_true rfl) (sn_Reader_takeParam c55)) ?_
        refine bk_b (q := (92, [(3, .int (l3 + (1 : Int32))), (0, .ref 47)], [])) tb_c_31_1 mx_31 2 rfl ?_
        exact go_lv (ls_sc rfl rfl (ls_sc rfl rfl ls_nil)) (ih h)
      · rw [if_neg g49] at h
        refine bk_jt tb_c_31_1 rfl (pc' := 124) rfl (cm_ne_t g49) ?_
        exact go_lv (ls_sc rfl rfl ls_nil) (sn_Reader_takeFunction_124 h)
    · rw [if_neg g48] at h
      refine bk_jt tb_c_31_1 rfl (pc' := 124) rfl (cm_ge_t g48) ?_
      exact go_lv (ls_sc rfl rfl ls_nil) (sn_Reader_takeFunction_124 h)
noncomputable def fn_Reader_takeFunction_55 (s1 : Int32) (s3 : Int32) (s4 : Int32) (S : wd_S) : Option wd_S :=
  (wd_c (fn_Reader_takeNewName s3 s4 S) fun x14 S13 =>
  (wd_d (fn_LongRow_put 48 s1 x14 S13) fun S16 =>
  (wd_b (wd_i S16 47 8 (0 : Int32)) fun S19 =>
  (wd_b (wd_i S19 47 11 (0 : Int32)) fun S20 =>
  (wd_d (fn_Reader_takeKind (15 : Int32) S20) fun S21 =>
  (if (S21.1 47 4) = (16 : Int32) then
    fn_Reader_takeFunction_124  S21
  else
    (wd_d (fn_Reader_takeParam  S21) fun S45 =>
    fn_Reader_takeFunction_92 wd_F (0 : Int32) S45)))))))
set_option maxRecDepth 100000 in
theorem sn_Reader_takeFunction_55 {L : Nat} {xs : Nat → Int32} {s1 : Int32} {s3 : Int32} {s4 : Int32} {S : wd_S} {S' : wd_S} (h : fn_Reader_takeFunction_55 s1 s3 s4 S = some S') : go_r tb_P L xs 204 31 55 [(0, .ref 47)] [.int s4, .int s3, .ref 47, .int s1, .ref 48] (wd_k S) (.inl none, wd_k S') := by
  unfold fn_Reader_takeFunction_55 at h
  obtain ⟨x14, S13, c15, h⟩ := wd_cx h
  refine bk_kv tb_c_31_0 rfl rfl rfl rfl rfl (ci := 4) rfl rfl (ev_up (Nat.le_of_ble_eq_true rfl) (sn_Reader_takeNewName c15)) ?_
  obtain ⟨S16, c18, h⟩ := wd_dx h
  refine bk_kv tb_c_31_0 rfl rfl rfl rfl rfl (ci := 1) rfl rfl (ev_up (Nat.le_of_ble_eq_true rfl) (sn_LongRow_put rfl c18)) ?_
  refine bk_b (q := (63, [(0, .ref 47)], [.int (0 : Int32), .ref 47])) tb_c_31_0 mx_31 2 rfl ?_
  obtain ⟨S19, eS19, h⟩ := wd_bx h
  refine bk_pi tb_c_31_0 rfl rfl (ci := 4) (k := 8) rfl rfl rfl rfl ?_
  rw [eS19]
  refine bk_b (q := (68, [(0, .ref 47)], [.int (0 : Int32), .ref 47])) tb_c_31_0 mx_31 2 rfl ?_
  obtain ⟨S20, eS20, h⟩ := wd_bx h
  refine bk_pi tb_c_31_0 rfl rfl (ci := 4) (k := 11) rfl rfl rfl rfl ?_
  rw [eS20]
  refine bk_b (q := (74, [(0, .ref 47)], [.int (15 : Int32), .ref 47])) tb_c_31_0 mx_31 2 rfl ?_
  obtain ⟨S21, c23, h⟩ := wd_dx h
  refine bk_kv tb_c_31_1 rfl rfl rfl rfl rfl (ci := 4) rfl rfl (ev_up (Nat.le_of_ble_eq_true rfl) (sn_Reader_takeKind c23)) ?_
  refine bk_b (q := (78, [(0, .ref 47)], [.ref 47])) tb_c_31_1 mx_31 1 rfl ?_
  refine bk_gi tb_c_31_1 rfl rfl (ci := 4) (k := 4) rfl rfl rfl ?_
  refine bk_b (q := (83, [(0, .ref 47)], [.int (16 : Int32), .int (S21.1 47 4)])) tb_c_31_1 mx_31 1 rfl ?_
  by_cases g24 : (S21.1 47 4) = (16 : Int32)
  · rw [if_pos g24] at h
    refine bk_jt tb_c_31_1 rfl (pc' := 124) rfl (cm_eq_t g24) ?_
    exact go_lv (ls_sc rfl rfl ls_nil) (sn_Reader_takeFunction_124 h)
  · rw [if_neg g24] at h
    refine bk_jf tb_c_31_1 rfl (pc' := 86) rfl (t := 124) rfl (cm_eq_f g24) ?_
    refine bk_b (q := (87, [(0, .ref 47)], [.ref 47])) tb_c_31_1 mx_31 1 rfl ?_
    obtain ⟨S45, c47, h⟩ := wd_dx h
    refine bk_kv tb_c_31_1 rfl rfl rfl rfl rfl (ci := 4) rfl rfl (ev_up (Nat.le_of_ble_eq_true rfl) (sn_Reader_takeParam c47)) ?_
    refine bk_b (q := (92, [(3, .int (0 : Int32)), (0, .ref 47)], [])) tb_c_31_1 mx_31 2 rfl ?_
    exact go_lv (ls_sc rfl rfl (ls_sc rfl rfl ls_nil)) (sn_Reader_takeFunction_92 wd_F h)
noncomputable def fn_Reader_takeFunction_36 (l1 : Int32) (s0 : Int32) (S : wd_S) : Option wd_S :=
  (if l1 < (48 : Int32) then
    fn_Reader_takeFunction_55 l1 s0 (0 : Int32) S
  else
    fn_Reader_takeFunction_55 l1 s0 (1 : Int32) S)
set_option maxRecDepth 100000 in
theorem sn_Reader_takeFunction_36 {L : Nat} {xs : Nat → Int32} {l1 : Int32} {s0 : Int32} {S : wd_S} {S' : wd_S} (h : fn_Reader_takeFunction_36 l1 s0 S = some S') : go_r tb_P L xs 204 31 36 [(0, .ref 47), (1, .int l1)] [.int s0] (wd_k S) (.inl none, wd_k S') := by
  unfold fn_Reader_takeFunction_36 at h
  refine bk_b (q := (38, [(2, .int s0), (0, .ref 47), (1, .int l1)], [.ref 47])) tb_c_31_0 mx_31 2 rfl ?_
  refine bk_gc tb_c_31_0 rfl rfl (ci := 4) (k := 7) rfl rfl rfl ?_
  refine bk_b (q := (47, [(2, .int s0), (0, .ref 47), (1, .int l1)], [.int (48 : Int32), .int l1, .int s0, .ref 47, .int l1, .ref 48])) tb_c_31_0 mx_31 5 rfl ?_
  by_cases g12 : l1 < (48 : Int32)
  · rw [if_pos g12] at h
    refine bk_jt tb_c_31_0 rfl (pc' := 54) rfl (cm_lt_t g12) ?_
    refine bk_b (q := (55, [(2, .int s0), (0, .ref 47), (1, .int l1)], [.int (0 : Int32), .int s0, .ref 47, .int l1, .ref 48])) tb_c_31_0 mx_31 1 rfl ?_
    exact go_lv (ls_sc rfl rfl ls_nil) (sn_Reader_takeFunction_55 h)
  · rw [if_neg g12] at h
    refine bk_jf tb_c_31_0 rfl (pc' := 50) rfl (t := 54) rfl (cm_lt_f g12) ?_
    refine bk_b (q := (55, [(2, .int s0), (0, .ref 47), (1, .int l1)], [.int (1 : Int32), .int s0, .ref 47, .int l1, .ref 48])) tb_c_31_0 mx_31 2 rfl ?_
    exact go_lv (ls_sc rfl rfl ls_nil) (sn_Reader_takeFunction_55 h)
/-- Specialiser$Reader.takeFunction()V -/
noncomputable def fn_Reader_takeFunction (S : wd_S) : Option wd_S :=
  (if tp_t (S.2.2.1 47 1) = (0, 0) then
    (wd_c (fn_Bodies_count (S.2.2.1 47 1) S) fun x3 S2 =>
    (wd_c (fn_Tokens_value (S2.1 47 3) S2) fun x6 S5 =>
    (wd_c (fn_LongRow_lastOf 48 x6 x3 S5) fun x9 S8 =>
    (if x9 = (-1 : Int32) then
      fn_Reader_takeFunction_36 x3 (0 : Int32) S8
    else
      fn_Reader_takeFunction_36 x3 (1 : Int32) S8))))
  else none)
set_option maxRecDepth 100000 in
theorem sn_Reader_takeFunction {L : Nat} {xs : Nat → Int32} {S : wd_S} {S' : wd_S} (h : fn_Reader_takeFunction  S = some S') : ev_r tb_P L xs (204 + 1) 31 [.ref 47] (wd_k S) (.inl none, wd_k S') := by
  unfold fn_Reader_takeFunction at h
  refine ev_of (Nat.le_of_ble_eq_true rfl) ?_
  show go_r tb_P L xs 204 31 0 [(0, .ref 47)] [] (wd_k S) (.inl none, wd_k S')
  refine bk_b (q := (1, [(0, .ref 47)], [.ref 47])) tb_c_31_0 mx_31 1 rfl ?_
  refine bk_gm tb_c_31_0 rfl rfl (ci := 4) (k := 1) rfl rfl rfl ?_
  by_cases g1 : tp_t (S.2.2.1 47 1) = (0, 0)
  · rw [if_pos g1] at h
    obtain ⟨x3, S2, c4, h⟩ := wd_cx h
    refine bk_kv tb_c_31_0 rfl rfl rfl rfl rfl (ci := 0) g1 rfl (ev_up (Nat.le_of_ble_eq_true rfl) (sn_Bodies_count g1 c4)) ?_
    refine bk_b (q := (9, [(1, .int x3), (0, .ref 47)], [.ref 47])) tb_c_31_0 mx_31 2 rfl ?_
    refine bk_gc tb_c_31_0 rfl rfl (ci := 4) (k := 7) rfl rfl rfl ?_
    refine bk_b (q := (13, [(1, .int x3), (0, .ref 47)], [.ref 47, .ref 48])) tb_c_31_0 mx_31 1 rfl ?_
    refine bk_gc tb_c_31_0 rfl rfl (ci := 4) (k := 0) rfl rfl rfl ?_
    refine bk_b (q := (17, [(1, .int x3), (0, .ref 47)], [.ref 47, .ref 4, .ref 48])) tb_c_31_0 mx_31 1 rfl ?_
    refine bk_gi tb_c_31_0 rfl rfl (ci := 4) (k := 3) rfl rfl rfl ?_
    obtain ⟨x6, S5, c7, h⟩ := wd_cx h
    refine bk_kv tb_c_31_0 rfl rfl rfl rfl rfl (ci := 7) rfl rfl (ev_up (Nat.le_of_ble_eq_true rfl) (sn_Tokens_value c7)) ?_
    refine bk_b (q := (24, [(1, .int x3), (0, .ref 47)], [.int x3, .long x6, .ref 48])) tb_c_31_0 mx_31 1 rfl ?_
    obtain ⟨x9, S8, c10, h⟩ := wd_cx h
    refine bk_kv tb_c_31_0 rfl rfl rfl rfl rfl (ci := 1) rfl rfl (ev_up (Nat.le_of_ble_eq_true rfl) (sn_LongRow_lastOf rfl c10)) ?_
    refine bk_b (q := (28, [(1, .int x3), (0, .ref 47)], [.int (-1 : Int32), .int x9])) tb_c_31_0 mx_31 1 rfl ?_
    by_cases g11 : x9 = (-1 : Int32)
    · rw [if_pos g11] at h
      refine bk_jt tb_c_31_0 rfl (pc' := 35) rfl (cm_eq_t g11) ?_
      refine bk_b (q := (36, [(1, .int x3), (0, .ref 47)], [.int (0 : Int32)])) tb_c_31_0 mx_31 1 rfl ?_
      exact go_lv (ls_sc rfl rfl (ls_sc rfl rfl ls_nil)) (sn_Reader_takeFunction_36 h)
    · rw [if_neg g11] at h
      refine bk_jf tb_c_31_0 rfl (pc' := 31) rfl (t := 35) rfl (cm_eq_f g11) ?_
      refine bk_b (q := (36, [(1, .int x3), (0, .ref 47)], [.int (1 : Int32)])) tb_c_31_0 mx_31 2 rfl ?_
      exact go_lv (ls_sc rfl rfl (ls_sc rfl rfl ls_nil)) (sn_Reader_takeFunction_36 h)
  · rw [if_neg g1] at h; cases h
theorem mx_59 : mi_mx tb_P 59 = 1 := rfl
/-- Specialiser$Trees.count()I -/
noncomputable def fn_Trees_count (p0 : Nat) (S : wd_S) : Option (Int32 × wd_S) :=
  some (S.1 p0 6, S)
set_option maxRecDepth 100000 in
theorem sn_Trees_count {L : Nat} {xs : Nat → Int32} {p0 : Nat} {S : wd_S} {x : Int32} {S' : wd_S} (hp0 : tp_t p0 = (0, 8)) (h : fn_Trees_count p0 S = some (x, S')) : ev_r tb_P L xs (0 + 1) 59 [.ref p0] (wd_k S) (.inl (some (.int x)), wd_k S') := by
  unfold fn_Trees_count at h
  refine ev_of (Nat.le_of_ble_eq_true rfl) ?_
  show go_r tb_P L xs 0 59 0 [(0, .ref p0)] [] (wd_k S) (.inl (some (.int x)), wd_k S')
  refine bk_b (q := (1, [(0, .ref p0)], [.ref p0])) tb_c_59_0 mx_59 1 rfl ?_
  refine bk_gi tb_c_59_0 rfl rfl (ci := 8) (k := 6) rfl hp0 rfl ?_
  cases h
  exact bk_t tb_c_59_0 rfl rfl
