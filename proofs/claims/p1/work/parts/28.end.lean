/-! p1: the claim. -/
theorem p1_pure : lw_pure := by
  intro L xs hL
  obtain ⟨h, H, hgo⟩ := w0_start L xs
  have hl : sy_l xs w0_l w0_l := ⟨.int 0, _, rfl, rfl, .ref 180, _, rfl, rfl, .ref 135, _, rfl, rfl, .ref 1, _, rfl, rfl, .ref 0, _, rfl, rfl, rfl⟩
  obtain ⟨g, h1, h2, h3⟩ := sy_law_ok tb_T_ok hL (c := mi_call tb_P L xs 2000 20) (fun V hV => sy_call_ok hV tb_T_ok 20) 1900 w0_V 23 w0_l w0_l [] [] w0 h p1_ok (w0_V_ok L xs) hl rfl H
  exact ⟨2000, 20, g, by decide, hgo 20 rfl 1900 _ h1, by omega, h3⟩
theorem i_vc : Claimed_1_1 ∧ Claimed_1_2 := i_vc_open p1_pure lw_text_ok
