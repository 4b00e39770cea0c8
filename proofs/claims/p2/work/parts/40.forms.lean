/-! Closed forms of the class's small methods, and of the reference's. -/
section Fo
variable (t b : Nat) (i k v c : Int32) (S : wd_S)
theorem fo_b1 : mi_fit .boolean (.int 1) = true := rfl
theorem fo_b0 : mi_fit .boolean (.int 0) = true := rfl
theorem fo_isLetter : fn_Tokens_isLetter c S = some (if c < 97 ∨ 122 < c then 0 else 1, S) := by
  unfold fn_Tokens_isLetter fn_Tokens_isLetter_16 fn_Tokens_isLetter_17
  by_cases h1 : c < 97 <;> by_cases h2 : (122 : Int32) < c <;> simp [h1, h2, fo_b0, fo_b1]
theorem fo_isDigit : fn_Tokens_isDigit c S = some (if c < 48 ∨ 57 < c then 0 else 1, S) := by
  unfold fn_Tokens_isDigit fn_Tokens_isDigit_16 fn_Tokens_isDigit_17
  by_cases h1 : c < 48 <;> by_cases h2 : (57 : Int32) < c <;> simp [h1, h2, fo_b0, fo_b1]
theorem fo_moDigit : fn_Mo_isDigit c S = some (if c < 48 ∨ 57 < c then 0 else 1, S) := by
  unfold fn_Mo_isDigit fn_Mo_isDigit_16 fn_Mo_isDigit_17
  by_cases h1 : c < 48 <;> by_cases h2 : (57 : Int32) < c <;> simp [h1, h2, fo_b0, fo_b1]
theorem fo_moRow : fn_Mo_isRow c S = some (if (c < 48 ∨ 57 < c) ∧ (c < 97 ∨ 122 < c) then 0 else 1, S) := by
  unfold fn_Mo_isRow fn_Mo_isRow_23 fn_Mo_isRow_19 fn_Mo_isRow_24
  rw [fo_moDigit, wd_c_s]
  by_cases h1 : c < 48 <;> by_cases h2 : (57 : Int32) < c <;> by_cases h3 : c < 97 <;> by_cases h4 : (122 : Int32) < c <;> simp [h1, h2, h3, h4, fo_b0, fo_b1]
theorem fo_kind : fn_Tokens_kind i S = some (if i < S.1 4 5 then ro_at 5 i S else 20, S) := by
  unfold fn_Tokens_kind fn_Tokens_kind_21
  rw [ro_at_ok, wd_c_s]
  by_cases h1 : i < S.1 4 5 <;> simp [h1]
theorem fo_start : fn_Tokens_start i S = some (if i < S.1 4 5 then ro_at 7 i S else S.1 4 4, S) := by
  unfold fn_Tokens_start fn_Tokens_start_23
  rw [ro_at_ok, wd_c_s]
  by_cases h1 : i < S.1 4 5 <;> simp [h1]
theorem fo_value : fn_Tokens_value i S = some (lo_at 9 i S, S) := by
  unfold fn_Tokens_value
  rw [lo_at_ok, wd_c_s]
theorem fo_tkind : fn_Trees_kind t i S = some (ro_at (t + 1) i S, S) := by
  unfold fn_Trees_kind
  rw [ro_at_ok, wd_c_s]
theorem fo_tvalue : fn_Trees_value t i S = some (ro_at (t + 3) i S, S) := by
  unfold fn_Trees_value
  rw [ro_at_ok, wd_c_s]
theorem fo_tparts : fn_Trees_parts t i S = some (ro_at (t + 5) i S, S) := by
  unfold fn_Trees_parts
  rw [ro_at_ok, wd_c_s]
theorem fo_tpart : fn_Trees_part t i k S = some (if k < 0 then 0 else if k < 4 then ro_at (t + 7) (i * 4 + k) S else 0, S) := by
  unfold fn_Trees_part fn_Trees_part_24 fn_Trees_part_25
  rw [ro_at_ok, wd_c_s]
  by_cases h1 : k < 0 <;> by_cases h2 : k < 4 <;> simp [h1, h2]
theorem fo_tsize : fn_Trees_size t i S = some (ro_at (t + 9) i S, S) := by
  unfold fn_Trees_size
  rw [ro_at_ok, wd_c_s]
theorem fo_tlets : fn_Trees_lets t i S = some (ro_at (t + 11) i S, S) := by
  unfold fn_Trees_lets
  rw [ro_at_ok, wd_c_s]
/-- a new node -/
def fo_op (t : Nat) (k v : Int32) (S : wd_S) : wd_S := ro_put (t + 11) (S.1 t 6) (if k = 3 then 1 else 0) (ro_put (t + 9) (S.1 t 6) 1 (ro_put (t + 5) (S.1 t 6) 0 (ro_put (t + 3) (S.1 t 6) v (ro_put (t + 1) (S.1 t 6) k (wd_i S t 6 (S.1 t 6 + 1))))))
theorem fo_open : fn_Trees_open t k v S = some (S.1 t 6, fo_op t k v S) := by
  unfold fn_Trees_open fn_Trees_open_66 wd_b fo_op
  simp only [ro_put_ok, wd_d_s]
  by_cases h : k = 3 <;> simp [h]
/-- a part more -/
def fo_ap (t : Nat) (i v : Int32) (S : wd_S) : wd_S :=
  let S1 := if ro_at (t + 5) i S < 4 then ro_put (t + 7) (i * 4 + ro_at (t + 5) i S) v S else S
  let S2 := ro_put (t + 5) i (ro_at (t + 5) i S + 1) S1
  let S3 := ro_put (t + 9) i (ro_at (t + 9) i S2 + ro_at (t + 9) v S2) S2
  ro_put (t + 11) i (ro_at (t + 11) i S3 + ro_at (t + 11) v S3) S3
theorem fo_append : fn_Trees_append t i v S = some (fo_ap t i v S) := by
  unfold fn_Trees_append fn_Trees_append_27 fo_ap
  simp only [ro_put_ok, ro_at_ok, wd_d_s, wd_c_s]
  by_cases h : ro_at (t + 5) i S < 4 <;> simp [h]
theorem fo_join {l r : Int32} : fn_Trees_join t k l r S = some (S.1 t 6, fo_ap t (S.1 t 6) r (fo_ap t (S.1 t 6) l (fo_op t k 0 S))) := by
  unfold fn_Trees_join
  simp only [fo_open, fo_append, wd_d_s, wd_c_s]
theorem fo_lead : fn_Trees_lead t i v S = some (ro_put (t + 3) i v S) := by
  unfold fn_Trees_lead
  simp only [ro_put_ok, wd_d_s]
theorem fo_root : fn_Bodies_root b i S = some (ro_at (b + 14) i S, S) := by
  unfold fn_Bodies_root
  rw [ro_at_ok, wd_c_s]
theorem fo_params : fn_Bodies_params b i S = some (ro_at (b + 16) i S, S) := by
  unfold fn_Bodies_params
  rw [ro_at_ok, wd_c_s]
theorem fo_has : fn_Bodies_has b i S = some (if i < 0 ∨ ¬i < S.1 b 3 then 0 else 1, S) := by
  unfold fn_Bodies_has fn_Bodies_has_16 fn_Bodies_has_17
  by_cases h1 : i < 0 <;> by_cases h2 : i < S.1 b 3 <;> simp [h1, h2, fo_b0, fo_b1]
/-- the reader's fault -/
def fo_fa (k i : Int32) (S : wd_S) : wd_S := if S.1 47 5 = 0 then wd_i (wd_i (wd_i S 47 5 k) 47 6 i) 47 4 20 else S
theorem fo_faultAt : fn_Reader_faultAt k i S = some (fo_fa k i S) := by
  unfold fn_Reader_faultAt fn_Reader_faultAt_23 wd_b fo_fa
  by_cases h : S.1 47 5 = 0 <;> simp [h]
def fo_rf (S : wd_S) : wd_S := fo_fa (if S.1 47 4 = 19 then 1 else 2) (S.1 47 3) S
theorem fo_refuse : fn_Reader_refuse S = some (fo_rf S) := by
  unfold fn_Reader_refuse fn_Reader_refuse_15 fo_rf
  simp only [fo_faultAt, wd_d_s]
  by_cases h : S.1 47 4 = 19 <;> simp [h]
/-- the reader takes a token -/
def fo_tk (k : Int32) (S : wd_S) : wd_S := if S.1 47 4 = k then (if S.1 47 3 < 1500 then wd_i (wd_i S 47 3 (S.1 47 3 + 1)) 47 4 (if S.1 47 3 + 1 < S.1 4 5 then ro_at 5 (S.1 47 3 + 1) S else 20) else fo_fa 6 (S.1 47 3) S) else fo_rf S
end Fo
