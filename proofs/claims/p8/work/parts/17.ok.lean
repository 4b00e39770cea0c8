/-! Throws, catches, classes, names; all of it together. -/
def tb_nms : List String := ["java/lang/RuntimeException", "java/lang/Exception"]
def tb_SK : List (String × Nat × String × Nat) := [("Specialiser", 119, "no room", 0), ("Specialiser", 132, "not so many bytes", 1), ("Specialiser", 157, "no such function or what", 2), ("Specialiser", 170, "no such parameter", 3), ("Specialiser", 177, "no program", 4), ("Specialiser", 179, "no such function", 5), ("Specialiser", 211, "no such version or what", 6), ("Specialiser", 226, "no such what", 7), ("Specialiser", 231, "no versions", 8), ("Specialiser", 239, "too long", 9), ("Specialiser", 242, "no such byte", 10), ("Specialiser", 244, "four are given", 11), ("Specialiser", 246, "nothing to run", 12), ("Specialiser", 248, "no such function or version", 13), ("Specialiser", 250, "steps or numbers given", 14), ("Specialiser$Maker", 111, "too many expressions", 15), ("Specialiser$Printer", 85, "", 16), ("Specialiser$Printer", 87, ", ", 17), ("Specialiser$Printer", 93, ") = ", 18), ("Specialiser$Printer", 101, ";\n", 19), ("Specialiser$Printer", 130, "(-2147483647 - 1)", 20), ("Specialiser$Printer", 135, "(let x", 21), ("Specialiser$Printer", 137, " = ", 22), ("Specialiser$Printer", 143, " in ", 23), ("Specialiser$Printer", 145, "(if ", 24), ("Specialiser$Printer", 147, " then ", 25), ("Specialiser$Printer", 149, " else ", 26), ("Specialiser$Printer", 158, " + ", 27), ("Specialiser$Printer", 160, " - ", 28), ("Specialiser$Printer", 162, " * ", 29), ("Specialiser$Printer", 164, " < ", 30), ("Specialiser$Printer", 166, " == ", 31)]
def tb_NC : List (String × String) := [("java/lang/IllegalArgumentException", "java/lang/IllegalStateException"), ("java/lang/IllegalArgumentException", "java/lang/IndexOutOfBoundsException"), ("java/lang/IllegalArgumentException", "java/lang/UnsupportedOperationException"), ("java/lang/IllegalStateException", "java/lang/IllegalArgumentException"), ("java/lang/IllegalStateException", "java/lang/IndexOutOfBoundsException"), ("java/lang/IllegalStateException", "java/lang/UnsupportedOperationException"), ("java/lang/IndexOutOfBoundsException", "java/lang/IllegalArgumentException"), ("java/lang/IndexOutOfBoundsException", "java/lang/IllegalStateException"), ("java/lang/IndexOutOfBoundsException", "java/lang/UnsupportedOperationException"), ("java/lang/UnsupportedOperationException", "java/lang/IllegalArgumentException"), ("java/lang/UnsupportedOperationException", "java/lang/IllegalStateException"), ("java/lang/UnsupportedOperationException", "java/lang/IndexOutOfBoundsException")]
theorem tb_tok_mk {j pc : Nat} {E own text : String} {ik is ic tt : Nat} (hown : (mi_nm tb_P j).cls = own) (h1 : (own, is, text, tt) ∈ tb_SK) (h2 : Bundle.fit E = true) (h3 : Cond.classLink own ik E ∈ tb_GT) (h4 : Cond.initialized E ∈ tb_GT) (h5 : (vx_atS own ic E tb_nms).all (fun w => decide (w ∈ lw_tbl) && (mi_wk w && vx_ot w)) = true) (h6 : (mi_hh tb_P j).isEmpty = true)
    (d0 : decode (mi_cd tb_P j) pc = .ok (.new ik, 3)) (d3 : decode (mi_cd tb_P j) (pc + 3) = .ok (.dup, 1)) (d4 : decode (mi_cd tb_P j) (pc + 4) = .ok (.ldc is, 2)) (d6 : decode (mi_cd tb_P j) (pc + 6) = .ok (.invokespecial ic, 3)) (d9 : decode (mi_cd tb_P j) (pc + 9) = .ok (.athrow, 1)) : mi_tok tb_GT tb_P tb_SK j pc E := by
  have h5 := List.all_eq_true.mp h5
  refine ⟨text, tb_nms, ik, is, ic, tt, by rw [hown]; exact h1, h2, by decide +kernel, by decide, by rw [hown]; exact h3, h4, ?_, ?_, h6, d0, d3, d4, d6, d9⟩
  · intro w hw
    rw [hown] at hw
    have h := h5 w hw
    rw [Bool.and_eq_true, Bool.and_eq_true] at h
    exact List.mem_filter.mpr ⟨of_decide_eq_true h.1, h.2.1⟩
  · intro w hw
    rw [hown] at hw
    rcases List.mem_cons.mp hw with e | hw
    · rw [e]; rfl
    · rcases List.mem_cons.mp hw with e | hw
      · rw [e]; rfl
      · have h := h5 w hw
        rw [Bool.and_eq_true, Bool.and_eq_true] at h
        exact h.2.2
theorem tb_at_of {l : List Cond} {hs : List (Nat × Nat)} (h : tb_zc l hs (fun w x => tb_w x w && vx_ot w) = true) : l.all (fun w => decide (w ∈ lw_tbl) && (mi_wk w && vx_ot w)) = true := by
  refine List.all_eq_true.mpr (fun w hw => ?_)
  obtain ⟨x, hx⟩ := tb_zc_ok h w hw
  rw [Bool.and_eq_true] at hx
  have h2 := List.mem_filter.mp (tb_w_ok hx.1)
  rw [Bool.and_eq_true, Bool.and_eq_true]
  exact ⟨decide_eq_true h2.1, h2.2, hx.2⟩
set_option maxRecDepth 100000 in
theorem tb_at_0 : (vx_atS "Specialiser" 121 "java/lang/IllegalStateException" tb_nms).all (fun w => decide (w ∈ lw_tbl) && (mi_wk w && vx_ot w)) = true := tb_at_of (hs := [(1, 13), (3, 192), (3, 201), (3, 206), (3, 209), (3, 211), (3, 193), (3, 194), (1, 32), (1, 33), (3, 195), (3, 200), (3, 207), (3, 227), (3, 182), (3, 228), (3, 184), (3, 229), (3, 186), (3, 196), (3, 198), (3, 188), (3, 223), (3, 224), (3, 226), (3, 188), (3, 214), (3, 215), (3, 216), (3, 217), (3, 174), (3, 217), (3, 218), (3, 219), (3, 220), (3, 176), (3, 220), (3, 221), (3, 222), (3, 223), (3, 178), (3, 213), (3, 171), (3, 172), (3, 179), (3, 180), (3, 181), (3, 183), (3, 185), (3, 187), (3, 191), (3, 190), (3, 189)]) (by decide +kernel)
set_option maxRecDepth 100000 in
theorem tb_at_1 : (vx_atS "Specialiser" 134 "java/lang/IllegalArgumentException" tb_nms).all (fun w => decide (w ∈ lw_tbl) && (mi_wk w && vx_ot w)) = true := tb_at_of (hs := [(1, 13), (3, 192), (3, 201), (3, 206), (3, 209), (3, 211), (3, 193), (3, 194), (1, 32), (1, 33), (3, 195), (3, 200), (3, 207), (3, 227), (3, 182), (3, 228), (3, 184), (3, 229), (3, 186), (3, 196), (3, 198), (3, 188), (3, 223), (3, 224), (3, 226), (3, 188), (4, 23), (4, 24), (4, 25), (3, 217), (3, 174), (3, 217), (3, 218), (3, 219), (3, 220), (3, 176), (3, 220), (3, 221), (3, 222), (3, 223), (3, 178), (4, 22), (4, 13), (4, 14), (4, 15), (3, 203), (4, 16), (4, 17), (4, 18), (4, 19), (3, 191), (3, 190), (4, 20)]) (by decide +kernel)
set_option maxRecDepth 100000 in
theorem tb_at_2 : (vx_atS "Specialiser" 159 "java/lang/IndexOutOfBoundsException" tb_nms).all (fun w => decide (w ∈ lw_tbl) && (mi_wk w && vx_ot w)) = true := tb_at_of (hs := [(1, 13), (3, 192), (3, 201), (3, 206), (3, 209), (3, 211), (3, 193), (3, 194), (1, 32), (1, 33), (3, 195), (3, 200), (3, 207), (3, 227), (3, 182), (3, 228), (3, 184), (3, 229), (3, 186), (3, 196), (3, 198), (3, 188), (3, 223), (3, 224), (3, 226), (3, 188), (4, 51), (4, 52), (4, 53), (3, 217), (3, 174), (3, 217), (3, 218), (3, 219), (3, 220), (3, 176), (3, 220), (3, 221), (3, 222), (3, 223), (3, 178), (4, 50), (4, 41), (4, 42), (4, 43), (3, 204), (4, 44), (4, 45), (4, 46), (4, 47), (3, 191), (3, 190), (4, 48)]) (by decide +kernel)
set_option maxRecDepth 100000 in
theorem tb_at_3 : (vx_atS "Specialiser" 241 "java/lang/UnsupportedOperationException" tb_nms).all (fun w => decide (w ∈ lw_tbl) && (mi_wk w && vx_ot w)) = true := tb_at_of (hs := [(1, 13), (3, 192), (3, 201), (3, 206), (3, 209), (3, 211), (3, 193), (3, 194), (1, 32), (1, 33), (3, 195), (3, 200), (3, 207), (3, 227), (3, 182), (3, 228), (3, 184), (3, 229), (3, 186), (3, 196), (3, 198), (3, 188), (3, 223), (3, 224), (3, 226), (3, 188), (4, 165), (4, 166), (4, 167), (3, 217), (3, 174), (3, 217), (3, 218), (3, 219), (3, 220), (3, 176), (3, 220), (3, 221), (3, 222), (3, 223), (3, 178), (5, 230), (4, 155), (4, 156), (4, 157), (3, 205), (4, 158), (4, 159), (4, 160), (4, 161), (3, 191), (3, 190), (4, 162)]) (by decide +kernel)
set_option maxRecDepth 100000 in
theorem tb_at_4 : (vx_atS "Specialiser$Maker" 113 "java/lang/UnsupportedOperationException" tb_nms).all (fun w => decide (w ∈ lw_tbl) && (mi_wk w && vx_ot w)) = true := tb_at_of (hs := [(1, 13), (3, 192), (3, 201), (3, 206), (3, 209), (3, 211), (3, 193), (3, 194), (1, 32), (1, 33), (3, 195), (3, 200), (3, 207), (3, 227), (3, 182), (3, 228), (3, 184), (3, 229), (3, 186), (3, 196), (3, 198), (3, 188), (3, 223), (3, 224), (3, 226), (3, 188), (4, 165), (4, 166), (4, 167), (3, 217), (3, 174), (3, 217), (3, 218), (3, 219), (3, 220), (3, 176), (3, 220), (3, 221), (3, 222), (3, 223), (3, 178), (4, 164), (4, 155), (4, 156), (4, 157), (3, 205), (4, 158), (4, 159), (4, 160), (4, 161), (3, 191), (3, 190), (4, 162)]) (by decide +kernel)
set_option maxRecDepth 100000 in
theorem tb_tok_0 : mi_tok tb_GT tb_P tb_SK 70 13 "java/lang/IllegalStateException" := tb_tok_mk (own := "Specialiser") (text := "no room") (ik := 117) (is := 119) (ic := 121) (tt := 0) rfl (by decide +kernel) (by decide +kernel) (tb_w_ok (x := (3, 170)) (by decide +kernel)) (tb_w_ok (x := (1, 16)) (by decide +kernel)) tb_at_0 rfl (by decide +kernel) (by decide +kernel) (by decide +kernel) (by decide +kernel) (by decide +kernel)
set_option maxRecDepth 100000 in
theorem tb_tok_1 : mi_tok tb_GT tb_P tb_SK 72 12 "java/lang/IllegalArgumentException" := tb_tok_mk (own := "Specialiser") (text := "not so many bytes") (ik := 130) (is := 132) (ic := 134) (tt := 1) rfl (by decide +kernel) (by decide +kernel) (tb_w_ok (x := (4, 12)) (by decide +kernel)) (tb_w_ok (x := (1, 17)) (by decide +kernel)) tb_at_1 rfl (by decide +kernel) (by decide +kernel) (by decide +kernel) (by decide +kernel) (by decide +kernel)
set_option maxRecDepth 100000 in
theorem tb_tok_2 : mi_tok tb_GT tb_P tb_SK 73 20 "java/lang/IndexOutOfBoundsException" := tb_tok_mk (own := "Specialiser") (text := "no such function or what") (ik := 155) (is := 157) (ic := 159) (tt := 2) rfl (by decide +kernel) (by decide +kernel) (tb_w_ok (x := (4, 40)) (by decide +kernel)) (tb_w_ok (x := (1, 19)) (by decide +kernel)) tb_at_2 rfl (by decide +kernel) (by decide +kernel) (by decide +kernel) (by decide +kernel) (by decide +kernel)
set_option maxRecDepth 100000 in
theorem tb_tok_3 : mi_tok tb_GT tb_P tb_SK 80 9 "java/lang/IndexOutOfBoundsException" := tb_tok_mk (own := "Specialiser") (text := "no such parameter") (ik := 155) (is := 170) (ic := 159) (tt := 3) rfl (by decide +kernel) (by decide +kernel) (tb_w_ok (x := (4, 40)) (by decide +kernel)) (tb_w_ok (x := (1, 19)) (by decide +kernel)) tb_at_2 rfl (by decide +kernel) (by decide +kernel) (by decide +kernel) (by decide +kernel) (by decide +kernel)
set_option maxRecDepth 100000 in
theorem tb_tok_4 : mi_tok tb_GT tb_P tb_SK 82 10 "java/lang/IllegalStateException" := tb_tok_mk (own := "Specialiser") (text := "no program") (ik := 117) (is := 177) (ic := 121) (tt := 4) rfl (by decide +kernel) (by decide +kernel) (tb_w_ok (x := (3, 170)) (by decide +kernel)) (tb_w_ok (x := (1, 16)) (by decide +kernel)) tb_at_0 rfl (by decide +kernel) (by decide +kernel) (by decide +kernel) (by decide +kernel) (by decide +kernel)
set_option maxRecDepth 100000 in
theorem tb_tok_5 : mi_tok tb_GT tb_P tb_SK 82 31 "java/lang/IndexOutOfBoundsException" := tb_tok_mk (own := "Specialiser") (text := "no such function") (ik := 155) (is := 179) (ic := 159) (tt := 5) rfl (by decide +kernel) (by decide +kernel) (tb_w_ok (x := (4, 40)) (by decide +kernel)) (tb_w_ok (x := (1, 19)) (by decide +kernel)) tb_at_2 rfl (by decide +kernel) (by decide +kernel) (by decide +kernel) (by decide +kernel) (by decide +kernel)
set_option maxRecDepth 100000 in
theorem tb_tok_6 : mi_tok tb_GT tb_P tb_SK 93 16 "java/lang/UnsupportedOperationException" := tb_tok_mk (own := "Specialiser$Maker") (text := "too many expressions") (ik := 109) (is := 111) (ic := 113) (tt := 15) rfl (by decide +kernel) (by decide +kernel) (tb_w_ok (x := (4, 154)) (by decide +kernel)) (tb_w_ok (x := (1, 21)) (by decide +kernel)) tb_at_4 rfl (by decide +kernel) (by decide +kernel) (by decide +kernel) (by decide +kernel) (by decide +kernel)
set_option maxRecDepth 100000 in
theorem tb_tok_7 : mi_tok tb_GT tb_P tb_SK 121 24 "java/lang/IndexOutOfBoundsException" := tb_tok_mk (own := "Specialiser") (text := "no such version or what") (ik := 155) (is := 211) (ic := 159) (tt := 6) rfl (by decide +kernel) (by decide +kernel) (tb_w_ok (x := (4, 40)) (by decide +kernel)) (tb_w_ok (x := (1, 19)) (by decide +kernel)) tb_at_2 rfl (by decide +kernel) (by decide +kernel) (by decide +kernel) (by decide +kernel) (by decide +kernel)
set_option maxRecDepth 100000 in
theorem tb_tok_8 : mi_tok tb_GT tb_P tb_SK 123 10 "java/lang/IndexOutOfBoundsException" := tb_tok_mk (own := "Specialiser") (text := "no such what") (ik := 155) (is := 226) (ic := 159) (tt := 7) rfl (by decide +kernel) (by decide +kernel) (tb_w_ok (x := (4, 40)) (by decide +kernel)) (tb_w_ok (x := (1, 19)) (by decide +kernel)) tb_at_2 rfl (by decide +kernel) (by decide +kernel) (by decide +kernel) (by decide +kernel) (by decide +kernel)
set_option maxRecDepth 100000 in
theorem tb_tok_9 : mi_tok tb_GT tb_P tb_SK 124 10 "java/lang/IllegalStateException" := tb_tok_mk (own := "Specialiser") (text := "no versions") (ik := 117) (is := 231) (ic := 121) (tt := 8) rfl (by decide +kernel) (by decide +kernel) (tb_w_ok (x := (3, 170)) (by decide +kernel)) (tb_w_ok (x := (1, 16)) (by decide +kernel)) tb_at_0 rfl (by decide +kernel) (by decide +kernel) (by decide +kernel) (by decide +kernel) (by decide +kernel)
set_option maxRecDepth 100000 in
theorem tb_tok_10 : mi_tok tb_GT tb_P tb_SK 124 37 "java/lang/UnsupportedOperationException" := tb_tok_mk (own := "Specialiser") (text := "too long") (ik := 237) (is := 239) (ic := 241) (tt := 9) rfl (by decide +kernel) (by decide +kernel) (tb_w_ok (x := (5, 228)) (by decide +kernel)) (tb_w_ok (x := (1, 21)) (by decide +kernel)) tb_at_3 rfl (by decide +kernel) (by decide +kernel) (by decide +kernel) (by decide +kernel) (by decide +kernel)
set_option maxRecDepth 100000 in
theorem tb_tok_11 : mi_tok tb_GT tb_P tb_SK 138 12 "java/lang/IndexOutOfBoundsException" := tb_tok_mk (own := "Specialiser") (text := "no such byte") (ik := 155) (is := 242) (ic := 159) (tt := 10) rfl (by decide +kernel) (by decide +kernel) (tb_w_ok (x := (4, 40)) (by decide +kernel)) (tb_w_ok (x := (1, 19)) (by decide +kernel)) tb_at_2 rfl (by decide +kernel) (by decide +kernel) (by decide +kernel) (by decide +kernel) (by decide +kernel)
set_option maxRecDepth 100000 in
theorem tb_tok_12 : mi_tok tb_GT tb_P tb_SK 139 10 "java/lang/IllegalStateException" := tb_tok_mk (own := "Specialiser") (text := "too long") (ik := 117) (is := 239) (ic := 121) (tt := 9) rfl (by decide +kernel) (by decide +kernel) (tb_w_ok (x := (3, 170)) (by decide +kernel)) (tb_w_ok (x := (1, 16)) (by decide +kernel)) tb_at_0 rfl (by decide +kernel) (by decide +kernel) (by decide +kernel) (by decide +kernel) (by decide +kernel)
set_option maxRecDepth 100000 in
theorem tb_tok_13 : mi_tok tb_GT tb_P tb_SK 140 8 "java/lang/IllegalStateException" := tb_tok_mk (own := "Specialiser") (text := "four are given") (ik := 117) (is := 244) (ic := 121) (tt := 11) rfl (by decide +kernel) (by decide +kernel) (tb_w_ok (x := (3, 170)) (by decide +kernel)) (tb_w_ok (x := (1, 16)) (by decide +kernel)) tb_at_0 rfl (by decide +kernel) (by decide +kernel) (by decide +kernel) (by decide +kernel) (by decide +kernel)
set_option maxRecDepth 100000 in
theorem tb_tok_14 : mi_tok tb_GT tb_P tb_SK 141 28 "java/lang/IllegalStateException" := tb_tok_mk (own := "Specialiser") (text := "nothing to run") (ik := 117) (is := 246) (ic := 121) (tt := 12) rfl (by decide +kernel) (by decide +kernel) (tb_w_ok (x := (3, 170)) (by decide +kernel)) (tb_w_ok (x := (1, 16)) (by decide +kernel)) tb_at_0 rfl (by decide +kernel) (by decide +kernel) (by decide +kernel) (by decide +kernel) (by decide +kernel)
set_option maxRecDepth 100000 in
theorem tb_tok_15 : mi_tok tb_GT tb_P tb_SK 141 47 "java/lang/IndexOutOfBoundsException" := tb_tok_mk (own := "Specialiser") (text := "no such function or version") (ik := 155) (is := 248) (ic := 159) (tt := 13) rfl (by decide +kernel) (by decide +kernel) (tb_w_ok (x := (4, 40)) (by decide +kernel)) (tb_w_ok (x := (1, 19)) (by decide +kernel)) tb_at_2 rfl (by decide +kernel) (by decide +kernel) (by decide +kernel) (by decide +kernel) (by decide +kernel)
set_option maxRecDepth 100000 in
theorem tb_tok_16 : mi_tok tb_GT tb_P tb_SK 141 81 "java/lang/IllegalArgumentException" := tb_tok_mk (own := "Specialiser") (text := "steps or numbers given") (ik := 130) (is := 250) (ic := 134) (tt := 14) rfl (by decide +kernel) (by decide +kernel) (tb_w_ok (x := (4, 12)) (by decide +kernel)) (tb_w_ok (x := (1, 17)) (by decide +kernel)) tb_at_1 rfl (by decide +kernel) (by decide +kernel) (by decide +kernel) (by decide +kernel) (by decide +kernel)
set_option maxRecDepth 100000 in
theorem tb_tok_17 : mi_tok tb_GT tb_P tb_SK 144 9 "java/lang/IndexOutOfBoundsException" := tb_tok_mk (own := "Specialiser") (text := "no such what") (ik := 155) (is := 226) (ic := 159) (tt := 7) rfl (by decide +kernel) (by decide +kernel) (tb_w_ok (x := (4, 40)) (by decide +kernel)) (tb_w_ok (x := (1, 19)) (by decide +kernel)) tb_at_2 rfl (by decide +kernel) (by decide +kernel) (by decide +kernel) (by decide +kernel) (by decide +kernel)
theorem tb_th_ok : ∀ j pc E, mi_th tb_P j pc = some E → mi_tok tb_GT tb_P tb_SK j pc E := by
  intro j pc E h
  have h : (if pc < 65536 then tb_t.lookup (j * 65536 + pc) else none) = some E := h
  split at h
  · next hpc =>
    have hm := tb_lk h
    simp only [tb_t, List.mem_cons, List.not_mem_nil, or_false, Prod.mk.injEq] at hm
    rcases hm with ⟨hk, rfl⟩ | ⟨hk, rfl⟩ | ⟨hk, rfl⟩ | ⟨hk, rfl⟩ | ⟨hk, rfl⟩ | ⟨hk, rfl⟩ | ⟨hk, rfl⟩ | ⟨hk, rfl⟩ | ⟨hk, rfl⟩ | ⟨hk, rfl⟩ | ⟨hk, rfl⟩ | ⟨hk, rfl⟩ | ⟨hk, rfl⟩ | ⟨hk, rfl⟩ | ⟨hk, rfl⟩ | ⟨hk, rfl⟩ | ⟨hk, rfl⟩ | ⟨hk, rfl⟩
    · obtain ⟨rfl, rfl⟩ : j = 70 ∧ pc = 13 := by omega
      exact tb_tok_0
    · obtain ⟨rfl, rfl⟩ : j = 72 ∧ pc = 12 := by omega
      exact tb_tok_1
    · obtain ⟨rfl, rfl⟩ : j = 73 ∧ pc = 20 := by omega
      exact tb_tok_2
    · obtain ⟨rfl, rfl⟩ : j = 80 ∧ pc = 9 := by omega
      exact tb_tok_3
    · obtain ⟨rfl, rfl⟩ : j = 82 ∧ pc = 10 := by omega
      exact tb_tok_4
    · obtain ⟨rfl, rfl⟩ : j = 82 ∧ pc = 31 := by omega
      exact tb_tok_5
    · obtain ⟨rfl, rfl⟩ : j = 93 ∧ pc = 16 := by omega
      exact tb_tok_6
    · obtain ⟨rfl, rfl⟩ : j = 121 ∧ pc = 24 := by omega
      exact tb_tok_7
    · obtain ⟨rfl, rfl⟩ : j = 123 ∧ pc = 10 := by omega
      exact tb_tok_8
    · obtain ⟨rfl, rfl⟩ : j = 124 ∧ pc = 10 := by omega
      exact tb_tok_9
    · obtain ⟨rfl, rfl⟩ : j = 124 ∧ pc = 37 := by omega
      exact tb_tok_10
    · obtain ⟨rfl, rfl⟩ : j = 138 ∧ pc = 12 := by omega
      exact tb_tok_11
    · obtain ⟨rfl, rfl⟩ : j = 139 ∧ pc = 10 := by omega
      exact tb_tok_12
    · obtain ⟨rfl, rfl⟩ : j = 140 ∧ pc = 8 := by omega
      exact tb_tok_13
    · obtain ⟨rfl, rfl⟩ : j = 141 ∧ pc = 28 := by omega
      exact tb_tok_14
    · obtain ⟨rfl, rfl⟩ : j = 141 ∧ pc = 47 := by omega
      exact tb_tok_15
    · obtain ⟨rfl, rfl⟩ : j = 141 ∧ pc = 81 := by omega
      exact tb_tok_16
    · obtain ⟨rfl, rfl⟩ : j = 144 ∧ pc = 9 := by omega
      exact tb_tok_17
  · cases h
set_option maxRecDepth 100000 in
theorem tb_cok_0 : mi_cok tb_GT tb_P tb_NC 208 11 "java/lang/IllegalStateException" 19 := by
  refine ⟨[], ⟨0, 16, 19, 13⟩, [], "java/lang/IllegalStateException", rfl, rfl, rfl, by decide, tb_w_ok (x := (3, 165)) (by decide +kernel), tb_w_ok (x := (3, 172)) (by decide +kernel), ?_⟩
  intro z hz
  cases hz
set_option maxRecDepth 100000 in
theorem tb_cok_1 : mi_cok tb_GT tb_P tb_NC 209 4 "java/lang/IllegalArgumentException" 12 := by
  refine ⟨[], ⟨0, 9, 12, 19⟩, [], "java/lang/IllegalArgumentException", rfl, rfl, rfl, by decide, tb_w_ok (x := (4, 7)) (by decide +kernel), tb_w_ok (x := (4, 14)) (by decide +kernel), ?_⟩
  intro z hz
  cases hz
set_option maxRecDepth 100000 in
theorem tb_cok_2 : mi_cok tb_GT tb_P tb_NC 210 5 "java/lang/IndexOutOfBoundsException" 13 := by
  refine ⟨[], ⟨0, 10, 13, 25⟩, [], "java/lang/IndexOutOfBoundsException", rfl, rfl, rfl, by decide, tb_w_ok (x := (4, 31)) (by decide +kernel), tb_w_ok (x := (4, 42)) (by decide +kernel), ?_⟩
  intro z hz
  cases hz
set_option maxRecDepth 100000 in
theorem tb_cok_3 : mi_cok tb_GT tb_P tb_NC 211 5 "java/lang/IndexOutOfBoundsException" 13 := by
  refine ⟨[], ⟨0, 10, 13, 25⟩, [], "java/lang/IndexOutOfBoundsException", rfl, rfl, rfl, by decide, tb_w_ok (x := (4, 31)) (by decide +kernel), tb_w_ok (x := (4, 42)) (by decide +kernel), ?_⟩
  intro z hz
  cases hz
set_option maxRecDepth 100000 in
theorem tb_cok_4 : mi_cok tb_GT tb_P tb_NC 212 4 "java/lang/IllegalStateException" 12 := by
  refine ⟨[], ⟨0, 9, 12, 13⟩, [⟨0, 9, 15, 25⟩, ⟨0, 9, 18, 33⟩], "java/lang/IllegalStateException", rfl, rfl, rfl, by decide, tb_w_ok (x := (3, 165)) (by decide +kernel), tb_w_ok (x := (3, 172)) (by decide +kernel), ?_⟩
  intro z hz
  cases hz
set_option maxRecDepth 100000 in
theorem tb_cok_5 : mi_cok tb_GT tb_P tb_NC 212 4 "java/lang/IndexOutOfBoundsException" 15 := by
  refine ⟨[⟨0, 9, 12, 13⟩], ⟨0, 9, 15, 25⟩, [⟨0, 9, 18, 33⟩], "java/lang/IndexOutOfBoundsException", rfl, rfl, rfl, by decide, tb_w_ok (x := (4, 31)) (by decide +kernel), tb_w_ok (x := (4, 42)) (by decide +kernel), ?_⟩
  intro z hz
  simp only [List.mem_cons, List.not_mem_nil, or_false] at hz
  rcases hz with rfl
  · exact Or.inr ⟨by decide, "java/lang/IllegalStateException", tb_w_ok (x := (3, 165)) (by decide +kernel), by decide +kernel⟩
set_option maxRecDepth 100000 in
theorem tb_cok_6 : mi_cok tb_GT tb_P tb_NC 212 4 "java/lang/UnsupportedOperationException" 18 := by
  refine ⟨[⟨0, 9, 12, 13⟩, ⟨0, 9, 15, 25⟩], ⟨0, 9, 18, 33⟩, [], "java/lang/UnsupportedOperationException", rfl, rfl, rfl, by decide, tb_w_ok (x := (4, 94)) (by decide +kernel), tb_w_ok (x := (4, 156)) (by decide +kernel), ?_⟩
  intro z hz
  simp only [List.mem_cons, List.not_mem_nil, or_false] at hz
  rcases hz with rfl | rfl
  · exact Or.inr ⟨by decide, "java/lang/IllegalStateException", tb_w_ok (x := (3, 165)) (by decide +kernel), by decide +kernel⟩
  · exact Or.inr ⟨by decide, "java/lang/IndexOutOfBoundsException", tb_w_ok (x := (4, 31)) (by decide +kernel), by decide +kernel⟩
set_option maxRecDepth 100000 in
theorem tb_cok_7 : mi_cok tb_GT tb_P tb_NC 213 5 "java/lang/IndexOutOfBoundsException" 13 := by
  refine ⟨[], ⟨0, 10, 13, 25⟩, [], "java/lang/IndexOutOfBoundsException", rfl, rfl, rfl, by decide, tb_w_ok (x := (4, 31)) (by decide +kernel), tb_w_ok (x := (4, 42)) (by decide +kernel), ?_⟩
  intro z hz
  cases hz
set_option maxRecDepth 100000 in
theorem tb_cok_8 : mi_cok tb_GT tb_P tb_NC 214 4 "java/lang/IndexOutOfBoundsException" 12 := by
  refine ⟨[], ⟨0, 9, 12, 25⟩, [], "java/lang/IndexOutOfBoundsException", rfl, rfl, rfl, by decide, tb_w_ok (x := (4, 31)) (by decide +kernel), tb_w_ok (x := (4, 42)) (by decide +kernel), ?_⟩
  intro z hz
  cases hz
set_option maxRecDepth 100000 in
theorem tb_cok_9 : mi_cok tb_GT tb_P tb_NC 215 3 "java/lang/IllegalStateException" 11 := by
  refine ⟨[], ⟨0, 8, 11, 13⟩, [⟨0, 8, 14, 33⟩], "java/lang/IllegalStateException", rfl, rfl, rfl, by decide, tb_w_ok (x := (3, 165)) (by decide +kernel), tb_w_ok (x := (3, 172)) (by decide +kernel), ?_⟩
  intro z hz
  cases hz
set_option maxRecDepth 100000 in
theorem tb_cok_10 : mi_cok tb_GT tb_P tb_NC 215 3 "java/lang/UnsupportedOperationException" 14 := by
  refine ⟨[⟨0, 8, 11, 13⟩], ⟨0, 8, 14, 33⟩, [], "java/lang/UnsupportedOperationException", rfl, rfl, rfl, by decide, tb_w_ok (x := (4, 94)) (by decide +kernel), tb_w_ok (x := (4, 156)) (by decide +kernel), ?_⟩
  intro z hz
  simp only [List.mem_cons, List.not_mem_nil, or_false] at hz
  rcases hz with rfl
  · exact Or.inr ⟨by decide, "java/lang/IllegalStateException", tb_w_ok (x := (3, 165)) (by decide +kernel), by decide +kernel⟩
set_option maxRecDepth 100000 in
theorem tb_cok_11 : mi_cok tb_GT tb_P tb_NC 216 4 "java/lang/IndexOutOfBoundsException" 12 := by
  refine ⟨[], ⟨0, 9, 12, 25⟩, [], "java/lang/IndexOutOfBoundsException", rfl, rfl, rfl, by decide, tb_w_ok (x := (4, 31)) (by decide +kernel), tb_w_ok (x := (4, 42)) (by decide +kernel), ?_⟩
  intro z hz
  cases hz
set_option maxRecDepth 100000 in
theorem tb_cok_12 : mi_cok tb_GT tb_P tb_NC 217 3 "java/lang/IllegalStateException" 11 := by
  refine ⟨[], ⟨0, 8, 11, 13⟩, [], "java/lang/IllegalStateException", rfl, rfl, rfl, by decide, tb_w_ok (x := (3, 165)) (by decide +kernel), tb_w_ok (x := (3, 172)) (by decide +kernel), ?_⟩
  intro z hz
  cases hz
set_option maxRecDepth 100000 in
theorem tb_cok_13 : mi_cok tb_GT tb_P tb_NC 218 4 "java/lang/IllegalStateException" 12 := by
  refine ⟨[], ⟨0, 9, 12, 13⟩, [], "java/lang/IllegalStateException", rfl, rfl, rfl, by decide, tb_w_ok (x := (3, 165)) (by decide +kernel), tb_w_ok (x := (3, 172)) (by decide +kernel), ?_⟩
  intro z hz
  cases hz
set_option maxRecDepth 100000 in
theorem tb_cok_14 : mi_cok tb_GT tb_P tb_NC 219 7 "java/lang/IllegalArgumentException" 23 := by
  refine ⟨[⟨0, 12, 15, 13⟩, ⟨0, 12, 19, 25⟩], ⟨0, 12, 23, 19⟩, [], "java/lang/IllegalArgumentException", rfl, rfl, rfl, by decide, tb_w_ok (x := (4, 7)) (by decide +kernel), tb_w_ok (x := (4, 14)) (by decide +kernel), ?_⟩
  intro z hz
  simp only [List.mem_cons, List.not_mem_nil, or_false] at hz
  rcases hz with rfl | rfl
  · exact Or.inr ⟨by decide, "java/lang/IllegalStateException", tb_w_ok (x := (3, 165)) (by decide +kernel), by decide +kernel⟩
  · exact Or.inr ⟨by decide, "java/lang/IndexOutOfBoundsException", tb_w_ok (x := (4, 31)) (by decide +kernel), by decide +kernel⟩
set_option maxRecDepth 100000 in
theorem tb_cok_15 : mi_cok tb_GT tb_P tb_NC 219 7 "java/lang/IllegalStateException" 15 := by
  refine ⟨[], ⟨0, 12, 15, 13⟩, [⟨0, 12, 19, 25⟩, ⟨0, 12, 23, 19⟩], "java/lang/IllegalStateException", rfl, rfl, rfl, by decide, tb_w_ok (x := (3, 165)) (by decide +kernel), tb_w_ok (x := (3, 172)) (by decide +kernel), ?_⟩
  intro z hz
  cases hz
set_option maxRecDepth 100000 in
theorem tb_cok_16 : mi_cok tb_GT tb_P tb_NC 219 7 "java/lang/IndexOutOfBoundsException" 19 := by
  refine ⟨[⟨0, 12, 15, 13⟩], ⟨0, 12, 19, 25⟩, [⟨0, 12, 23, 19⟩], "java/lang/IndexOutOfBoundsException", rfl, rfl, rfl, by decide, tb_w_ok (x := (4, 31)) (by decide +kernel), tb_w_ok (x := (4, 42)) (by decide +kernel), ?_⟩
  intro z hz
  simp only [List.mem_cons, List.not_mem_nil, or_false] at hz
  rcases hz with rfl
  · exact Or.inr ⟨by decide, "java/lang/IllegalStateException", tb_w_ok (x := (3, 165)) (by decide +kernel), by decide +kernel⟩
set_option maxRecDepth 100000 in
theorem tb_cok_17 : mi_cok tb_GT tb_P tb_NC 220 4 "java/lang/IndexOutOfBoundsException" 12 := by
  refine ⟨[], ⟨0, 9, 12, 25⟩, [], "java/lang/IndexOutOfBoundsException", rfl, rfl, rfl, by decide, tb_w_ok (x := (4, 31)) (by decide +kernel), tb_w_ok (x := (4, 42)) (by decide +kernel), ?_⟩
  intro z hz
  cases hz
theorem tb_ca_ok : ∀ j pc E hp, mi_ca tb_P j pc E = some hp → mi_cok tb_GT tb_P tb_NC j pc E hp := by
  intro j pc E hp h
  have h : (if pc < 65536 then (tb_h.lookup (j * 65536 + pc)).bind (fun l => l.lookup E) else none) = some hp := h
  split at h
  · next hpc =>
    obtain ⟨l, hl, hE⟩ := Option.bind_eq_some_iff.mp h
    have hm := tb_lk hl
    have hn := tb_lk hE
    simp only [tb_h, List.mem_cons, List.not_mem_nil, or_false, Prod.mk.injEq] at hm
    rcases hm with ⟨hk, rfl⟩ | ⟨hk, rfl⟩ | ⟨hk, rfl⟩ | ⟨hk, rfl⟩ | ⟨hk, rfl⟩ | ⟨hk, rfl⟩ | ⟨hk, rfl⟩ | ⟨hk, rfl⟩ | ⟨hk, rfl⟩ | ⟨hk, rfl⟩ | ⟨hk, rfl⟩ | ⟨hk, rfl⟩ | ⟨hk, rfl⟩
    · obtain ⟨rfl, rfl⟩ : j = 208 ∧ pc = 11 := by omega
      simp only [List.mem_cons, List.not_mem_nil, or_false, Prod.mk.injEq] at hn
      obtain ⟨rfl, rfl⟩ := hn
      exact tb_cok_0
    · obtain ⟨rfl, rfl⟩ : j = 209 ∧ pc = 4 := by omega
      simp only [List.mem_cons, List.not_mem_nil, or_false, Prod.mk.injEq] at hn
      obtain ⟨rfl, rfl⟩ := hn
      exact tb_cok_1
    · obtain ⟨rfl, rfl⟩ : j = 210 ∧ pc = 5 := by omega
      simp only [List.mem_cons, List.not_mem_nil, or_false, Prod.mk.injEq] at hn
      obtain ⟨rfl, rfl⟩ := hn
      exact tb_cok_2
    · obtain ⟨rfl, rfl⟩ : j = 211 ∧ pc = 5 := by omega
      simp only [List.mem_cons, List.not_mem_nil, or_false, Prod.mk.injEq] at hn
      obtain ⟨rfl, rfl⟩ := hn
      exact tb_cok_3
    · obtain ⟨rfl, rfl⟩ : j = 212 ∧ pc = 4 := by omega
      simp only [List.mem_cons, List.not_mem_nil, or_false, Prod.mk.injEq] at hn
      rcases hn with ⟨rfl, rfl⟩ | ⟨rfl, rfl⟩ | ⟨rfl, rfl⟩
      · exact tb_cok_4
      · exact tb_cok_5
      · exact tb_cok_6
    · obtain ⟨rfl, rfl⟩ : j = 213 ∧ pc = 5 := by omega
      simp only [List.mem_cons, List.not_mem_nil, or_false, Prod.mk.injEq] at hn
      obtain ⟨rfl, rfl⟩ := hn
      exact tb_cok_7
    · obtain ⟨rfl, rfl⟩ : j = 214 ∧ pc = 4 := by omega
      simp only [List.mem_cons, List.not_mem_nil, or_false, Prod.mk.injEq] at hn
      obtain ⟨rfl, rfl⟩ := hn
      exact tb_cok_8
    · obtain ⟨rfl, rfl⟩ : j = 215 ∧ pc = 3 := by omega
      simp only [List.mem_cons, List.not_mem_nil, or_false, Prod.mk.injEq] at hn
      rcases hn with ⟨rfl, rfl⟩ | ⟨rfl, rfl⟩
      · exact tb_cok_9
      · exact tb_cok_10
    · obtain ⟨rfl, rfl⟩ : j = 216 ∧ pc = 4 := by omega
      simp only [List.mem_cons, List.not_mem_nil, or_false, Prod.mk.injEq] at hn
      obtain ⟨rfl, rfl⟩ := hn
      exact tb_cok_11
    · obtain ⟨rfl, rfl⟩ : j = 217 ∧ pc = 3 := by omega
      simp only [List.mem_cons, List.not_mem_nil, or_false, Prod.mk.injEq] at hn
      obtain ⟨rfl, rfl⟩ := hn
      exact tb_cok_12
    · obtain ⟨rfl, rfl⟩ : j = 218 ∧ pc = 4 := by omega
      simp only [List.mem_cons, List.not_mem_nil, or_false, Prod.mk.injEq] at hn
      obtain ⟨rfl, rfl⟩ := hn
      exact tb_cok_13
    · obtain ⟨rfl, rfl⟩ : j = 219 ∧ pc = 7 := by omega
      simp only [List.mem_cons, List.not_mem_nil, or_false, Prod.mk.injEq] at hn
      rcases hn with ⟨rfl, rfl⟩ | ⟨rfl, rfl⟩ | ⟨rfl, rfl⟩
      · exact tb_cok_14
      · exact tb_cok_15
      · exact tb_cok_16
    · obtain ⟨rfl, rfl⟩ : j = 220 ∧ pc = 4 := by omega
      simp only [List.mem_cons, List.not_mem_nil, or_false, Prod.mk.injEq] at hn
      obtain ⟨rfl, rfl⟩ := hn
      exact tb_cok_17
  · cases h
set_option maxRecDepth 100000 in
theorem tb_u_0 : tb_zc (u_ws RX0 TX0 4) [(1, 125), (1, 127), (1, 129), (1, 131)] (fun w x => tb_w x w) = true := by decide +kernel
set_option maxRecDepth 100000 in
theorem tb_u_1 : tb_zc (u_ws RX1 TX1 1) [(1, 60)] (fun w x => tb_w x w) = true := by decide +kernel
set_option maxRecDepth 100000 in
theorem tb_u_2 : tb_zc (u_ws RX2 TX2 11) [(2, 44), (2, 46), (2, 48), (2, 50), (2, 52), (2, 54), (2, 56), (2, 58), (2, 60), (2, 62), (2, 64)] (fun w x => tb_w x w) = true := by decide +kernel
set_option maxRecDepth 100000 in
theorem tb_u_3 : tb_zc (u_ws RX3 TX3 8) [(2, 86), (2, 88), (2, 90), (2, 92), (2, 94), (2, 96), (2, 98), (2, 100)] (fun w x => tb_w x w) = true := by decide +kernel
set_option maxRecDepth 100000 in
theorem tb_u_4 : tb_zc (u_ws RX4 TX4 13) [(1, 161), (1, 163), (1, 165), (1, 167), (1, 169), (1, 171), (1, 173), (1, 175), (1, 177), (1, 179), (1, 181), (1, 183), (1, 185)] (fun w x => tb_w x w) = true := by decide +kernel
set_option maxRecDepth 100000 in
theorem tb_u_5 : tb_zc (u_ws RX5 TX5 1) [(1, 41)] (fun w x => tb_w x w) = true := by decide +kernel
set_option maxRecDepth 100000 in
theorem tb_u_6 : tb_zc (u_ws RX6 TX6 13) [(1, 233), (1, 235), (1, 237), (1, 239), (2, 1), (2, 3), (2, 5), (2, 7), (2, 9), (2, 11), (2, 13), (2, 15), (2, 17)] (fun w x => tb_w x w) = true := by decide +kernel
set_option maxRecDepth 100000 in
theorem tb_u_7 : tb_zc (u_ws RX7 TX7 6) [(1, 70), (1, 72), (1, 74), (1, 76), (1, 78), (1, 80)] (fun w x => tb_w x w) = true := by decide +kernel
set_option maxRecDepth 100000 in
theorem tb_u_8 : tb_zc (u_ws RX8 TX8 7) [(1, 104), (1, 106), (1, 108), (1, 110), (1, 112), (1, 114), (1, 116)] (fun w x => tb_w x w) = true := by decide +kernel
set_option maxRecDepth 100000 in
theorem tb_u_9 : tb_zc (u_ws RX9 TX9 4) [(1, 202), (1, 204), (1, 206), (1, 208)] (fun w x => tb_w x w) = true := by decide +kernel
set_option maxRecDepth 100000 in
theorem tb_u_10 : tb_zc (u_ws RX10 TX10 20) [(2, 123), (2, 125), (2, 127), (2, 129), (2, 131), (2, 133), (2, 135), (2, 137), (2, 139), (2, 141), (2, 143), (2, 145), (2, 147), (2, 149), (2, 151), (2, 153), (2, 155), (2, 157), (2, 159), (2, 161)] (fun w x => tb_w x w) = true := by decide +kernel
set_option maxRecDepth 100000 in
theorem tb_u_11 : tb_zc (u_ws RX11 TX11 99) [(6, 147), (6, 149), (6, 151), (6, 153), (6, 155), (6, 157), (6, 159), (6, 161), (6, 163), (6, 165), (6, 167), (6, 169), (6, 171), (6, 173), (6, 175), (6, 177), (6, 179), (6, 181), (6, 183), (6, 185), (6, 187), (6, 189), (6, 191), (6, 193), (6, 195), (6, 197), (6, 199), (6, 201), (6, 203), (6, 205), (6, 207), (6, 209), (6, 211), (6, 213), (6, 215), (6, 217), (6, 219), (6, 221), (6, 223), (6, 225), (6, 227), (6, 229), (6, 231), (6, 233), (6, 235), (6, 237), (6, 239), (7, 1), (7, 3), (7, 5), (7, 7), (7, 9), (7, 11), (7, 13), (7, 15), (7, 17), (7, 19), (7, 21), (7, 23), (7, 25), (7, 27), (7, 29), (7, 31), (7, 33), (7, 35), (7, 37), (7, 39), (7, 41), (7, 43), (7, 45), (7, 47), (7, 49), (7, 51), (7, 53), (7, 55), (7, 57), (7, 59), (7, 61), (7, 63), (7, 65), (7, 67), (7, 69), (7, 71), (7, 73), (7, 75), (7, 77), (7, 79), (7, 81), (7, 83), (7, 85), (7, 87), (7, 89), (7, 91), (7, 93), (7, 95), (7, 97), (7, 99), (7, 101), (7, 103)] (fun w x => tb_w x w) = true := by decide +kernel
theorem tb_cls_ok : mi_cls tb_GT vwCl tb_ft := by
  intro ci C T N h
  match ci, h with
  | 0, h => cases h; exact ⟨fun w hw => by obtain ⟨x, hx⟩ := tb_zc_ok tb_u_0 w hw; exact tb_w_ok hx, tyX0_ok, nmX0, tb_w_ok (x := (1, 84)) (by decide +kernel), tb_w_ok (x := (1, 5)) (by decide +kernel)⟩
  | 1, h => cases h; exact ⟨fun w hw => by obtain ⟨x, hx⟩ := tb_zc_ok tb_u_1 w hw; exact tb_w_ok hx, tyX1_ok, nmX1, tb_w_ok (x := (1, 54)) (by decide +kernel), tb_w_ok (x := (1, 4)) (by decide +kernel)⟩
  | 2, h => cases h; exact ⟨fun w hw => by obtain ⟨x, hx⟩ := tb_zc_ok tb_u_2 w hw; exact tb_w_ok hx, tyX2_ok, nmX2, tb_w_ok (x := (2, 21)) (by decide +kernel), tb_w_ok (x := (1, 10)) (by decide +kernel)⟩
  | 3, h => cases h; exact ⟨fun w hw => by obtain ⟨x, hx⟩ := tb_zc_ok tb_u_3 w hw; exact tb_w_ok hx, tyX3_ok, nmX3, tb_w_ok (x := (2, 69)) (by decide +kernel), tb_w_ok (x := (1, 11)) (by decide +kernel)⟩
  | 4, h => cases h; exact ⟨fun w hw => by obtain ⟨x, hx⟩ := tb_zc_ok tb_u_4 w hw; exact tb_w_ok hx, tyX4_ok, nmX4, tb_w_ok (x := (1, 135)) (by decide +kernel), tb_w_ok (x := (1, 7)) (by decide +kernel)⟩
  | 5, h => cases h; exact ⟨fun w hw => by obtain ⟨x, hx⟩ := tb_zc_ok tb_u_5 w hw; exact tb_w_ok hx, tyX5_ok, nmX5, tb_w_ok (x := (1, 35)) (by decide +kernel), tb_w_ok (x := (1, 2)) (by decide +kernel)⟩
  | 6, h => cases h; exact ⟨fun w hw => by obtain ⟨x, hx⟩ := tb_zc_ok tb_u_6 w hw; exact tb_w_ok hx, tyX6_ok, nmX6, tb_w_ok (x := (1, 212)) (by decide +kernel), tb_w_ok (x := (1, 9)) (by decide +kernel)⟩
  | 7, h => cases h; exact ⟨fun w hw => by obtain ⟨x, hx⟩ := tb_zc_ok tb_u_7 w hw; exact tb_w_ok hx, tyX7_ok, nmX7, tb_w_ok (x := (1, 46)) (by decide +kernel), tb_w_ok (x := (1, 3)) (by decide +kernel)⟩
  | 8, h => cases h; exact ⟨fun w hw => by obtain ⟨x, hx⟩ := tb_zc_ok tb_u_8 w hw; exact tb_w_ok hx, tyX8_ok, nmX8, tb_w_ok (x := (1, 90)) (by decide +kernel), tb_w_ok (x := (1, 6)) (by decide +kernel)⟩
  | 9, h => cases h; exact ⟨fun w hw => by obtain ⟨x, hx⟩ := tb_zc_ok tb_u_9 w hw; exact tb_w_ok hx, tyX9_ok, nmX9, tb_w_ok (x := (1, 189)) (by decide +kernel), tb_w_ok (x := (1, 8)) (by decide +kernel)⟩
  | 10, h => cases h; exact ⟨fun w hw => by obtain ⟨x, hx⟩ := tb_zc_ok tb_u_10 w hw; exact tb_w_ok hx, tyX10_ok, nmX10, tb_w_ok (x := (1, 27)) (by decide +kernel), tb_w_ok (x := (1, 1)) (by decide +kernel)⟩
  | 11, h => cases h; exact ⟨fun w hw => by obtain ⟨x, hx⟩ := tb_zc_ok tb_u_11 w hw; exact tb_w_ok hx, tyX11_ok, nmX11, tb_w_ok (x := (6, 42)) (by decide +kernel), tb_w_ok (x := (1, 12)) (by decide +kernel)⟩
  | k + 12, h => simp [vwCl] at h
set_option maxRecDepth 100000 in
theorem tb_sc : (List.range 15).all (fun c => (tb_c c).all (fun q => match q.2 with
  | .retAddr t => tb_SK.any (fun z => z.1 == tb_own.getD c "" && (z.2.1 == q.1 && z.2.2.2 == t))
  | _ => true)) = true := by decide +kernel
theorem tb_sc0 : ∀ c, 15 ≤ c → tb_c c = [] := by
  intro c h
  match c, h with
  | 0, h => omega
  | 1, h => omega
  | 2, h => omega
  | 3, h => omega
  | 4, h => omega
  | 5, h => omega
  | 6, h => omega
  | 7, h => omega
  | 8, h => omega
  | 9, h => omega
  | 10, h => omega
  | 11, h => omega
  | 12, h => omega
  | 13, h => omega
  | 14, h => omega
  | c + 15, h => rfl
def tb_nO : Nat := 15
def tb_nM : Nat := 221
set_option maxRecDepth 100000 in
theorem tb_names : (List.range tb_nM).all (fun j => decide ((mi_nm tb_P j).cls = tb_own.getD (tb_k.getD j 99) "") && (plainFor (mi_nm tb_P j) && (!(tb_in.getD j false) || decide ((mi_nm tb_P j).name = "<init>")))) = true := by decide +kernel
theorem tb_beyond : ∀ j, tb_nM ≤ j → tb_k.getD j 99 = 99 ∧ plainFor (mi_nm tb_P j) = true := by
  intro j h
  have h : 221 ≤ j := h
  have e1 : tb_k.getD j 99 = 99 := by
    rw [List.getD_eq_getElem?_getD, List.getElem?_eq_none (by show tb_k.length ≤ j; exact Nat.le_trans (by decide +kernel) h)]
    rfl
  refine ⟨e1, ?_⟩
  have e2 : tb_m.getD j tb_m0 = tb_m0 := by
    rw [List.getD_eq_getElem?_getD, List.getElem?_eq_none (by show tb_m.length ≤ j; exact Nat.le_trans (by decide +kernel) h)]
    rfl
  show plainFor (tb_m.getD j tb_m0).1 = true
  rw [e2]
  decide +kernel
theorem tb_own_of {j : Nat} (h : j < tb_nM) : (mi_nm tb_P j).cls = tb_own.getD (tb_k.getD j 99) "" ∧ plainFor (mi_nm tb_P j) = true ∧ (tb_in.getD j false = true → (mi_nm tb_P j).name = "<init>") := by
  have h1 := List.all_eq_true.mp tb_names j (List.mem_range.mpr h)
  simp only [Bool.and_eq_true, decide_eq_true_eq, Bool.or_eq_true, Bool.not_eq_true'] at h1
  refine ⟨h1.1, h1.2.1, fun z => ?_⟩
  rcases h1.2.2 with e | e
  · rw [z] at e; cases e
  · exact e
theorem tb_i_one {j ix k kind n : Nat} (hj : j < tb_nM) (h : mi_iv tb_P j ix = some (k, kind, n)) : mi_sok tb_GT vwCl tb_P (mi_nm tb_P j).cls ix k kind n := by
  obtain ⟨hown, -, -⟩ := tb_own_of hj
  have h : (tb_i (tb_k.getD j 99)).lookup ix = some (k, kind, n) := h
  obtain ⟨x, hx⟩ := tb_zc_ok (tb_i_ok (tb_k.getD j 99)) _ (tb_lk h)
  rw [hown]
  unfold tb_ichk at hx
  dsimp only at hx
  split at hx
  · next h6 => exact Or.inl h6
  next h6 =>
  split at hx
  · next h3 =>
    simp only [Bool.and_eq_true] at hx
    exact Or.inr (Or.inl ⟨h3, tb_w_ok hx.1, tb_w_ok hx.2.1, tb_w_ok hx.2.2⟩)
  · next h3 =>
    simp only [Bool.and_eq_true, decide_eq_true_eq] at hx
    obtain ⟨hc, hp, hl⟩ := hx
    have hm : (k, kind) ∈ tb_cal := by simpa using hc
    obtain ⟨y, hy⟩ := tb_cal_ok _ hm
    have hcw := tb_cw _ hm
    unfold tb_cchk2 at hy
    simp only [Bool.and_eq_true, decide_eq_true_eq] at hy
    obtain ⟨y1, y2, y3, y4, y5⟩ := hy
    refine Or.inr (Or.inr ⟨h3, ⟨y3, y4⟩, hp, tb_w_ok y1, hcw, y2, ?_⟩)
    match kind, y5, hl with
    | 0, y5, hl =>
      simp only [Bool.and_eq_true] at y5
      obtain ⟨z1, z2, z3, z4⟩ := y5
      refine Or.inl ⟨rfl, z1, tb_w_ok hl, tb_w_ok z2, tb_w_ok z3, ?_⟩
      split at z4
      · next r hr =>
        obtain ⟨C, T, N⟩ := r
        have e1 : C = (mi_nm tb_P k).cls := of_decide_eq_true z4
        rw [← e1]
        exact ⟨T, N, hr⟩
      · cases z4
    | 1, y5, hl =>
      simp only [Bool.and_eq_true] at y5
      exact Or.inr (Or.inl ⟨rfl, y5.1, tb_w_ok hl, tb_w_ok y5.2⟩)
    | 2, y5, hl =>
      simp only [Bool.and_eq_true, decide_eq_true_eq] at y5
      exact Or.inr (Or.inr (Or.inl ⟨rfl, y5.1, tb_w_ok hl, tb_w_ok y5.2.1, y5.2.2.1, Option.isNone_iff_eq_none.mp y5.2.2.2⟩))
    | 3, y5, hl => exact absurd rfl h3
    | 4, y5, hl =>
      simp only [Bool.and_eq_true] at y5
      exact Or.inr (Or.inr (Or.inr (Or.inl ⟨rfl, y5.1, ⟨tb_host, tb_w_ok hl⟩, tb_w_ok y5.2⟩)))
    | 5, y5, hl =>
      simp only [Bool.and_eq_true, Bool.not_eq_true'] at y5
      exact Or.inr (Or.inr (Or.inr (Or.inr ⟨rfl, y5.1, tb_w_ok hl, tb_w_ok y5.2⟩)))
    | q + 6, y5, hl => cases y5
theorem tb_plc {j : Nat} (hj : j < tb_nM) : mi_plc tb_GT vwCl tb_P j := by
  obtain ⟨hown, -, hini⟩ := tb_own_of hj
  unfold mi_plc
  rw [hown]
  refine ⟨fun ix ci k w h => ?_, fun ix ci h => ?_, fun ix x h => ?_, fun ix x h => ?_⟩
  · have h : ((tb_f (tb_k.getD j 99)).lookup ix).map (fun q => (q.1, q.2.1, q.2.2 || tb_in.getD j false)) = some (ci, k, w) := h
    obtain ⟨q, hq, e1⟩ := Option.map_eq_some_iff.mp h
    obtain ⟨ci', k', w'⟩ := q
    cases e1
    obtain ⟨x, hx⟩ := tb_zc_ok (tb_f_ok (tb_k.getD j 99)) _ (tb_lk hq)
    unfold tb_fchk at hx
    dsimp only at hx
    split at hx
    · next r hr =>
      obtain ⟨C, T, N⟩ := r
      simp only [Bool.and_eq_true, decide_eq_true_eq] at hx
      obtain ⟨a1, a2, a3⟩ := hx
      refine ⟨C, T, N, hr, a1, tb_w_ok a2, fun hw => ?_⟩
      cases w' with
      | true => simp only [if_true, Bool.not_eq_true'] at a3; exact Or.inl a3
      | false =>
        simp only [Bool.false_eq_true, if_false, decide_eq_true_eq] at a3
        simp only [Bool.false_or] at hw
        exact Or.inr ⟨by rw [decide_eq_true_eq]; exact hini hw, a3⟩
    · cases hx
  · obtain ⟨x, hx⟩ := tb_zc_ok (tb_n_ok (tb_k.getD j 99)) _ (tb_lk h)
    unfold tb_nchk at hx
    dsimp only at hx
    split at hx
    · next r hr =>
      obtain ⟨C, T, N⟩ := r
      simp only [Bool.and_eq_true, decide_eq_true_eq] at hx
      obtain ⟨a1, a2⟩ := hx
      subst a1
      exact ⟨C, T, hr, tb_w_ok a2⟩
    · cases hx
  · obtain ⟨y, hy⟩ := tb_zc_ok (tb_c_ok (tb_k.getD j 99)) _ (tb_lk h)
    exact tb_w_ok hy
  · obtain ⟨y, hy⟩ := tb_zc_ok (tb_c_ok (tb_k.getD j 99)) _ (tb_lk h)
    exact tb_w_ok hy
theorem tb_str_ok {j ix t : Nat} (hj : j < tb_nM) (h : mi_cs tb_P j ix = some (.retAddr t)) : ∃ text, ((mi_nm tb_P j).cls, ix, text, t) ∈ tb_SK := by
  obtain ⟨hown, -, -⟩ := tb_own_of hj
  have h : (tb_c (tb_k.getD j 99)).lookup ix = some (.retAddr t) := h
  have hm := tb_lk h
  by_cases hc : tb_k.getD j 99 < tb_nO
  · have h1 := List.all_eq_true.mp (List.all_eq_true.mp tb_sc _ (List.mem_range.mpr hc)) _ hm
    dsimp only at h1
    obtain ⟨z, hz, h2⟩ := List.any_eq_true.mp h1
    simp only [Bool.and_eq_true, beq_iff_eq] at h2
    obtain ⟨z1, z2, z3, z4⟩ := z
    obtain ⟨e1, e2, e3⟩ := h2
    dsimp only at e1 e2 e3
    rw [hown, ← e1, ← e2, ← e3]
    exact ⟨z3, hz⟩
  · rw [tb_sc0 _ (Nat.not_lt.mp hc)] at hm
    cases hm
/-- THE TABLES HOLD -/
theorem tb_ok : mi_ok tb_GT vwCl tb_P tb_SK tb_NC := by
  refine ⟨⟨tb_w_ok (x := (1, 44)) (by decide +kernel), tb_w_ok (x := (1, 63)) (by decide +kernel), tb_w_ok (x := (7, 106)) (by decide +kernel)⟩, tb_cls_ok, fun w hw => (List.mem_filter.mp hw).2, by decide +kernel, fun j => ?_⟩
  by_cases hj : j < tb_nM
  · exact ⟨tb_plc hj, fun pc i h => h, fun ix k kind n h => tb_i_one hj h, tb_th_ok j, tb_ca_ok j, (tb_own_of hj).2.1, fun ix t h => tb_str_ok hj h⟩
  · obtain ⟨e1, e2⟩ := tb_beyond j (Nat.not_lt.mp hj)
    refine ⟨⟨fun ix ci k w h => ?_, fun ix ci h => ?_, fun ix x h => ?_, fun ix x h => ?_⟩, fun pc i h => h, fun ix k kind n h => ?_, tb_th_ok j, tb_ca_ok j, e2, fun ix t h => ?_⟩
    · have h : ((tb_f (tb_k.getD j 99)).lookup ix).map (fun q => (q.1, q.2.1, q.2.2 || tb_in.getD j false)) = some (ci, k, w) := h
      rw [e1] at h
      cases h
    · have h : (tb_n (tb_k.getD j 99)).lookup ix = some ci := h
      rw [e1] at h
      cases h
    · have h : (tb_c (tb_k.getD j 99)).lookup ix = some (.int x) := h
      rw [e1] at h
      cases h
    · have h : (tb_c (tb_k.getD j 99)).lookup ix = some (.long x) := h
      rw [e1] at h
      cases h
    · have h : (tb_i (tb_k.getD j 99)).lookup ix = some (k, kind, n) := h
      rw [e1] at h
      cases h
    · have h : (tb_c (tb_k.getD j 99)).lookup ix = some (.retAddr t) := h
      rw [e1] at h
      cases h
