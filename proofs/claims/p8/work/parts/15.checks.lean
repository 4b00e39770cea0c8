/-! The tables hold: the words are among those of the Statement. -/
def tb_GT : List Cond := lw_tbl.filter mi_wk
theorem tb_lk {κ α : Type} [BEq κ] [LawfulBEq κ] {l : List (κ × α)} {a : κ} {v : α} (h : l.lookup a = some v) : (a, v) ∈ l := by
  induction l with
  | nil => cases h
  | cons q t ih =>
    obtain ⟨k, w⟩ := q
    rw [List.lookup_cons] at h
    cases hk : (a == k) with
    | true =>
      rw [hk] at h
      have e1 : a = k := by simpa using hk
      have e2 : w = v := Option.some.inj h
      rw [e1, ← e2]
      exact List.mem_cons_self
    | false =>
      rw [hk] at h
      exact List.mem_cons_of_mem _ (ih h)
/-- a list and hints to it, checked side by side -/
def tb_zc {α β : Type} (l : List α) (h : List β) (f : α → β → Bool) : Bool := match l, h with
  | [], _ => true
  | a :: l, b :: h => f a b && tb_zc l h f
  | _ :: _, [] => false
theorem tb_zc_ok {α β : Type} {f : α → β → Bool} : ∀ {l : List α} {h : List β}, tb_zc l h f = true → ∀ a ∈ l, ∃ b, f a b = true := by
  intro l
  induction l with
  | nil => intro h _ a ha; cases ha
  | cons a0 t ih =>
    intro h hz a ha
    cases h with
    | nil => cases hz
    | cons b0 u =>
      unfold tb_zc at hz
      rw [Bool.and_eq_true] at hz
      rcases List.mem_cons.mp ha with e | e
      · rw [e]; exact ⟨b0, hz.1⟩
      · exact ih hz.2 a e
def tb_tab : Nat → List Cond := fun s => match s with
  | 0 => k2_sels lw_privs
  | 1 => tables_1_1
  | 2 => tables_1_2
  | 3 => tables_1_3
  | 4 => tables_1_4
  | 5 => tables_1_5
  | 6 => tables_1_6
  | 7 => tables_1_7
  | 8 => tables_1_8
  | _ => []
theorem tb_tab_in : ∀ s : Nat, ∀ w ∈ tb_tab s, w ∈ lw_tbl := by
  intro s w h
  match s, h with
  | 0, h => exact List.mem_append_left _ h
  | 1, h => exact List.mem_append_right _ (List.mem_append_left _ h)
  | 2, h => exact List.mem_append_right _ (List.mem_append_right _ (List.mem_append_left _ h))
  | 3, h => exact List.mem_append_right _ (List.mem_append_right _ (List.mem_append_right _ (List.mem_append_left _ h)))
  | 4, h => exact List.mem_append_right _ (List.mem_append_right _ (List.mem_append_right _ (List.mem_append_right _ (List.mem_append_left _ h))))
  | 5, h => exact List.mem_append_right _ (List.mem_append_right _ (List.mem_append_right _ (List.mem_append_right _ (List.mem_append_right _ (List.mem_append_left _ h)))))
  | 6, h => exact List.mem_append_right _ (List.mem_append_right _ (List.mem_append_right _ (List.mem_append_right _ (List.mem_append_right _ (List.mem_append_right _ (List.mem_append_left _ h))))))
  | 7, h => exact List.mem_append_right _ (List.mem_append_right _ (List.mem_append_right _ (List.mem_append_right _ (List.mem_append_right _ (List.mem_append_right _ (List.mem_append_right _ (List.mem_append_left _ h)))))))
  | 8, h => exact List.mem_append_right _ (List.mem_append_right _ (List.mem_append_right _ (List.mem_append_right _ (List.mem_append_right _ (List.mem_append_right _ (List.mem_append_right _ (List.mem_append_right _ (h))))))))
  | k + 9, h => cases h
/-- the word stands at its hint, and stays true -/
def tb_w (x : Nat × Nat) (w : Cond) : Bool := decide ((tb_tab x.1)[x.2]? = some w) && mi_wk w
theorem tb_w_ok {x : Nat × Nat} {w : Cond} (h : tb_w x w = true) : w ∈ tb_GT := by
  unfold tb_w at h
  rw [Bool.and_eq_true] at h
  exact List.mem_filter.mpr ⟨tb_tab_in x.1 w (List.mem_of_getElem? (of_decide_eq_true h.1)), h.2⟩
def tb_fchk (c : Nat) (q : Nat × Nat × Nat × Bool) (x : Nat × Nat) : Bool := match vwCl[q.2.1]? with
  | some r => decide (q.2.2.1 < r.2.2) && (tb_w x (.fieldLink (tb_own.getD c "") q.1 (r.2.1 q.2.2.1).1 (r.2.1 q.2.2.1).2.1 (r.2.1 q.2.2.1).2.2.1) && (if q.2.2.2 = true then !(r.2.1 q.2.2.1).2.2.2 else decide ((r.2.1 q.2.2.1).1 = tb_own.getD c "")))
  | none => false
def tb_nchk (c : Nat) (q : Nat × Nat) (x : Nat × Nat) : Bool := match vwCl[q.2]? with
  | some r => decide (r.2.2 = tb_nf q.2) && tb_w x (.classLink (tb_own.getD c "") q.1 r.1)
  | none => false
def tb_cchk (c : Nat) (q : Nat × Value) (x : Nat × Nat) : Bool := match q.2 with
  | .int v => tb_w x (.constant (tb_own.getD c "") q.1 v)
  | .long v => tb_w x (.constantLong (tb_own.getD c "") q.1 v)
  | .retAddr _ => true
  | _ => false
def tb_fh : Nat → List (Nat × Nat) := fun c => match c with
  | 0 => [(1, 121), (1, 122), (1, 123), (1, 124)]
  | 1 => [(1, 59)]
  | 2 => [(2, 33), (2, 34), (2, 35), (2, 36), (2, 37), (2, 38), (2, 39), (2, 40), (2, 41), (2, 42), (2, 43)]
  | 3 => [(2, 78), (2, 79), (2, 80), (2, 81), (2, 82), (2, 83), (2, 84), (2, 85)]
  | 4 => [(1, 148), (1, 149), (1, 150), (1, 151), (1, 152), (1, 153), (1, 154), (1, 155), (1, 156), (1, 157), (1, 158), (1, 159), (1, 160)]
  | 5 => [(1, 40)]
  | 6 => [(1, 220), (1, 221), (1, 222), (1, 223), (1, 224), (1, 225), (1, 226), (1, 227), (1, 228), (1, 229), (1, 230), (1, 231), (1, 232)]
  | 7 => [(1, 64), (1, 65), (1, 66), (1, 67), (1, 68), (1, 69)]
  | 8 => [(1, 97), (1, 98), (1, 99), (1, 100), (1, 101), (1, 102), (1, 103)]
  | 9 => [(1, 198), (1, 199), (1, 200), (1, 201)]
  | 10 => [(2, 103), (2, 104), (2, 105), (2, 106), (2, 108), (2, 109), (2, 107), (2, 110), (2, 111), (2, 112), (2, 113), (2, 114), (2, 115), (2, 116), (2, 117), (2, 118), (2, 119), (2, 120), (2, 121), (2, 122)]
  | 11 => [(6, 49), (6, 58), (6, 59), (6, 60), (6, 61), (6, 62), (6, 63), (6, 64), (6, 65), (6, 66), (6, 67), (6, 68), (6, 69), (6, 70), (6, 71), (6, 72), (6, 77), (6, 80), (6, 81), (6, 82), (6, 84), (6, 87), (6, 91), (6, 93), (6, 101), (6, 102), (6, 103), (6, 104), (6, 105), (6, 106), (6, 122), (6, 123), (6, 125), (6, 126), (6, 128), (6, 129), (6, 130), (6, 131), (6, 132), (6, 133), (6, 134), (6, 135), (6, 138), (6, 139), (6, 142), (6, 48), (6, 50), (6, 57), (6, 51), (6, 53), (6, 52), (6, 54), (6, 56), (6, 55), (6, 75), (6, 79), (6, 83), (6, 85), (6, 86), (6, 78), (6, 76), (6, 73), (6, 74), (6, 88), (6, 89), (6, 90), (6, 107), (6, 108), (6, 109), (6, 110), (6, 120), (6, 92), (6, 94), (6, 96), (6, 97), (6, 98), (6, 99), (6, 100), (6, 95), (6, 112), (6, 114), (6, 121), (6, 127), (6, 124), (6, 118), (6, 119), (6, 113), (6, 116), (6, 117), (6, 115), (6, 111), (6, 143), (6, 136), (6, 141), (6, 140), (6, 137), (6, 144), (6, 145), (6, 146)]
  | _ => []
set_option maxRecDepth 100000 in
theorem tb_f_ok_0 : tb_zc (tb_f 0) (tb_fh 0) (tb_fchk 0) = true := by decide +kernel
set_option maxRecDepth 100000 in
theorem tb_f_ok_1 : tb_zc (tb_f 1) (tb_fh 1) (tb_fchk 1) = true := by decide +kernel
set_option maxRecDepth 100000 in
theorem tb_f_ok_2 : tb_zc (tb_f 2) (tb_fh 2) (tb_fchk 2) = true := by decide +kernel
set_option maxRecDepth 100000 in
theorem tb_f_ok_3 : tb_zc (tb_f 3) (tb_fh 3) (tb_fchk 3) = true := by decide +kernel
set_option maxRecDepth 100000 in
theorem tb_f_ok_4 : tb_zc (tb_f 4) (tb_fh 4) (tb_fchk 4) = true := by decide +kernel
set_option maxRecDepth 100000 in
theorem tb_f_ok_5 : tb_zc (tb_f 5) (tb_fh 5) (tb_fchk 5) = true := by decide +kernel
set_option maxRecDepth 100000 in
theorem tb_f_ok_6 : tb_zc (tb_f 6) (tb_fh 6) (tb_fchk 6) = true := by decide +kernel
set_option maxRecDepth 100000 in
theorem tb_f_ok_7 : tb_zc (tb_f 7) (tb_fh 7) (tb_fchk 7) = true := by decide +kernel
set_option maxRecDepth 100000 in
theorem tb_f_ok_8 : tb_zc (tb_f 8) (tb_fh 8) (tb_fchk 8) = true := by decide +kernel
set_option maxRecDepth 100000 in
theorem tb_f_ok_9 : tb_zc (tb_f 9) (tb_fh 9) (tb_fchk 9) = true := by decide +kernel
set_option maxRecDepth 100000 in
theorem tb_f_ok_10 : tb_zc (tb_f 10) (tb_fh 10) (tb_fchk 10) = true := by decide +kernel
set_option maxRecDepth 100000 in
theorem tb_f_ok_11 : tb_zc (tb_f 11) (tb_fh 11) (tb_fchk 11) = true := by decide +kernel
theorem tb_f_ok : ∀ c : Nat, tb_zc (tb_f c) (tb_fh c) (tb_fchk c) = true := by
  intro c
  match c with
  | 0 => exact tb_f_ok_0
  | 1 => exact tb_f_ok_1
  | 2 => exact tb_f_ok_2
  | 3 => exact tb_f_ok_3
  | 4 => exact tb_f_ok_4
  | 5 => exact tb_f_ok_5
  | 6 => exact tb_f_ok_6
  | 7 => exact tb_f_ok_7
  | 8 => exact tb_f_ok_8
  | 9 => exact tb_f_ok_9
  | 10 => exact tb_f_ok_10
  | 11 => exact tb_f_ok_11
  | 12 => exact rfl
  | 13 => exact rfl
  | 14 => exact rfl
  | c + 15 => rfl
def tb_nh : Nat → List (Nat × Nat) := fun c => match c with
  | 0 => [(1, 89), (1, 119)]
  | 2 => [(2, 31)]
  | 3 => [(2, 74)]
  | 4 => [(1, 144), (1, 146)]
  | 6 => [(1, 217)]
  | 7 => [(1, 51), (1, 53)]
  | 8 => [(1, 95)]
  | 9 => [(1, 194), (1, 196)]
  | 10 => [(1, 34), (1, 45), (1, 83), (1, 134), (1, 188), (1, 211), (2, 20), (2, 68)]
  | 12 => [(1, 26), (6, 41)]
  | _ => []
set_option maxRecDepth 100000 in
theorem tb_n_ok_0 : tb_zc (tb_n 0) (tb_nh 0) (tb_nchk 0) = true := by decide +kernel
set_option maxRecDepth 100000 in
theorem tb_n_ok_2 : tb_zc (tb_n 2) (tb_nh 2) (tb_nchk 2) = true := by decide +kernel
set_option maxRecDepth 100000 in
theorem tb_n_ok_3 : tb_zc (tb_n 3) (tb_nh 3) (tb_nchk 3) = true := by decide +kernel
set_option maxRecDepth 100000 in
theorem tb_n_ok_4 : tb_zc (tb_n 4) (tb_nh 4) (tb_nchk 4) = true := by decide +kernel
set_option maxRecDepth 100000 in
theorem tb_n_ok_6 : tb_zc (tb_n 6) (tb_nh 6) (tb_nchk 6) = true := by decide +kernel
set_option maxRecDepth 100000 in
theorem tb_n_ok_7 : tb_zc (tb_n 7) (tb_nh 7) (tb_nchk 7) = true := by decide +kernel
set_option maxRecDepth 100000 in
theorem tb_n_ok_8 : tb_zc (tb_n 8) (tb_nh 8) (tb_nchk 8) = true := by decide +kernel
set_option maxRecDepth 100000 in
theorem tb_n_ok_9 : tb_zc (tb_n 9) (tb_nh 9) (tb_nchk 9) = true := by decide +kernel
set_option maxRecDepth 100000 in
theorem tb_n_ok_10 : tb_zc (tb_n 10) (tb_nh 10) (tb_nchk 10) = true := by decide +kernel
set_option maxRecDepth 100000 in
theorem tb_n_ok_12 : tb_zc (tb_n 12) (tb_nh 12) (tb_nchk 12) = true := by decide +kernel
theorem tb_n_ok : ∀ c : Nat, tb_zc (tb_n c) (tb_nh c) (tb_nchk c) = true := by
  intro c
  match c with
  | 0 => exact tb_n_ok_0
  | 1 => exact rfl
  | 2 => exact tb_n_ok_2
  | 3 => exact tb_n_ok_3
  | 4 => exact tb_n_ok_4
  | 5 => exact rfl
  | 6 => exact tb_n_ok_6
  | 7 => exact tb_n_ok_7
  | 8 => exact tb_n_ok_8
  | 9 => exact tb_n_ok_9
  | 10 => exact tb_n_ok_10
  | 11 => exact rfl
  | 12 => exact tb_n_ok_12
  | 13 => exact rfl
  | 14 => exact rfl
  | c + 15 => rfl
def tb_ch : Nat → List (Nat × Nat) := fun c => match c with
  | 2 => [(99, 0)]
  | 3 => [(5, 121), (99, 0), (99, 0), (99, 0), (99, 0), (5, 188), (99, 0), (99, 0), (99, 0), (99, 0), (99, 0), (99, 0), (99, 0), (99, 0), (99, 0), (99, 0), (99, 0), (99, 0)]
  | 6 => [(4, 213)]
  | 7 => [(2, 194), (2, 211), (2, 198), (2, 199), (2, 200), (2, 201), (2, 202)]
  | 10 => [(2, 67), (99, 0), (99, 0), (99, 0), (99, 0), (99, 0), (99, 0), (99, 0), (99, 0), (99, 0), (99, 0), (99, 0), (99, 0), (99, 0), (99, 0), (99, 0)]
  | 11 => [(6, 47), (7, 140), (7, 141), (7, 142), (7, 143), (7, 230), (7, 235), (8, 55), (8, 64), (8, 84), (8, 93), (8, 94), (8, 95), (8, 116)]
  | 14 => [(4, 88), (4, 89), (4, 90)]
  | _ => []
set_option maxRecDepth 100000 in
theorem tb_c_ok_2 : tb_zc (tb_c 2) (tb_ch 2) (tb_cchk 2) = true := by decide +kernel
set_option maxRecDepth 100000 in
theorem tb_c_ok_3 : tb_zc (tb_c 3) (tb_ch 3) (tb_cchk 3) = true := by decide +kernel
set_option maxRecDepth 100000 in
theorem tb_c_ok_6 : tb_zc (tb_c 6) (tb_ch 6) (tb_cchk 6) = true := by decide +kernel
set_option maxRecDepth 100000 in
theorem tb_c_ok_7 : tb_zc (tb_c 7) (tb_ch 7) (tb_cchk 7) = true := by decide +kernel
set_option maxRecDepth 100000 in
theorem tb_c_ok_10 : tb_zc (tb_c 10) (tb_ch 10) (tb_cchk 10) = true := by decide +kernel
set_option maxRecDepth 100000 in
theorem tb_c_ok_11 : tb_zc (tb_c 11) (tb_ch 11) (tb_cchk 11) = true := by decide +kernel
set_option maxRecDepth 100000 in
theorem tb_c_ok_14 : tb_zc (tb_c 14) (tb_ch 14) (tb_cchk 14) = true := by decide +kernel
theorem tb_c_ok : ∀ c : Nat, tb_zc (tb_c c) (tb_ch c) (tb_cchk c) = true := by
  intro c
  match c with
  | 0 => exact rfl
  | 1 => exact rfl
  | 2 => exact tb_c_ok_2
  | 3 => exact tb_c_ok_3
  | 4 => exact rfl
  | 5 => exact rfl
  | 6 => exact tb_c_ok_6
  | 7 => exact tb_c_ok_7
  | 8 => exact rfl
  | 9 => exact rfl
  | 10 => exact tb_c_ok_10
  | 11 => exact tb_c_ok_11
  | 12 => exact rfl
  | 13 => exact rfl
  | 14 => exact tb_c_ok_14
  | c + 15 => rfl
