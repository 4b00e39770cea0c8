/-! The class's runner: each kind's rounds. -/
theorem wd_d_id (o : Option wd_S) : wd_d o (fun S => some S) = o := by cases o <;> rfl
def ck_h (b L M D fr y : Nat) (S : wd_S) : Prop := cb_ok b L M ∧ S.2.2.1 104 5 = b ∧ S.2.2.1 104 6 = b + 1 ∧ S.1 104 8 = Int32.ofNat D ∧ D < 161 ∧ S.1 112 D = Int32.ofNat fr ∧ fr < 161 ∧ y < L
section Ck
variable {b L M D0 lim D s m y z fr d g i D' τ r n j : Nat} {P : List tr_T} {S S' S0 S1 S2 : wd_S} {V V' : ev_V} {t : tr_T} {v x : Int32}
theorem im_ma (a b c : Nat) : Int32.ofNat a * Int32.ofNat b + Int32.ofNat c = Int32.ofNat (a * b + c) := by
  rw [← Int32.ofNat_mul, ← Int32.ofNat_add]
theorem ct_part (hb : cb_ok b L M) (hy : y < L) (hj : j < 4) (h : S.1 (b + 9) (4 * y + j) = Int32.ofNat z) : fn_Trees_part (b + 1) (Int32.ofNat y) (Int32.ofNat j) S = some (Int32.ofNat z, S) := by
  obtain ⟨hb1, hb2, hb3, ⟨g2, g4, g6, g8, g10, g12⟩, hb5, hb6, hb7⟩ := hb
  rw [fo_tpart, if_neg (im_neg (show j < 2147483648 by omega)), if_pos (show Int32.ofNat j < 4 from (im_lt (m := j) (n := 4) (by omega) (by omega)).mpr hj)]
  have e : Int32.ofNat y * 4 + Int32.ofNat j = Int32.ofNat (4 * y + j) := by
    rw [show (4 : Int32) = Int32.ofNat 4 from rfl, im_ma, Nat.mul_comm]
  rw [e, ro_an (r := b + 1 + 7) g8 (show 4 * y + j < 4 * L by omega)]
  show some (S.1 (b + 9) (4 * y + j), S) = _
  rw [h]
theorem ct_parts (hb : cb_ok b L M) (hy : y < L) : fn_Trees_parts (b + 1) (Int32.ofNat y) S = some (S.1 (b + 7) y, S) := by
  obtain ⟨hb1, hb2, hb3, ⟨g2, g4, g6, g8, g10, g12⟩, hb5, hb6, hb7⟩ := hb
  rw [fo_tparts, ro_an (r := b + 1 + 5) g6 hy]
theorem ct_value (hb : cb_ok b L M) (hy : y < L) : fn_Trees_value (b + 1) (Int32.ofNat y) S = some (S.1 (b + 5) y, S) := by
  obtain ⟨hb1, hb2, hb3, ⟨g2, g4, g6, g8, g10, g12⟩, hb5, hb6, hb7⟩ := hb
  rw [fo_tvalue, ro_an (r := b + 1 + 3) g4 hy]
theorem ct_kind (hb : cb_ok b L M) (hy : y < L) : fn_Trees_kind (b + 1) (Int32.ofNat y) S = some (S.1 (b + 3) y, S) := by
  obtain ⟨hb1, hb2, hb3, ⟨g2, g4, g6, g8, g10, g12⟩, hb5, hb6, hb7⟩ := hb
  rw [fo_tkind, ro_an (r := b + 1 + 1) g2 hy]
theorem ck_112 (h : ck_h b L M D fr y S) : fn_Row_at 111 (S.1 104 8) S = some (Int32.ofNat fr, S) := by
  obtain ⟨hb, a1, a2, a3, a4, a5, a6, a7⟩ := h
  rw [a3, ro_at_ok, ro_an cr_112 a4, a5]
theorem cl_0 (h : ck_h b L M D fr y S) (hz : S.1 (b + 9) (4 * y + 0) = Int32.ofNat z) : fn_Runner_goOnLet (Int32.ofNat y) (Int32.ofNat 0) S = fn_Runner_begin (Int32.ofNat z) (Int32.ofNat fr) S := by
  have h0 := h
  obtain ⟨hb, a1, a2, a3, a4, a5, a6, a7⟩ := h
  unfold fn_Runner_goOnLet fn_Runner_goOnLet_94
  rw [if_pos (show Int32.ofNat 0 = 0 from rfl), a2, if_pos hb.2.2.1]
  have e := ct_part (j := 0) (S := S) hb a7 (by decide) hz
  have e : fn_Trees_part (b + 1) (Int32.ofNat y) 0 S = some (Int32.ofNat z, S) := e
  rw [e, wd_c_s, ck_112 h0, wd_c_s, wd_d_id]
theorem cl_1 (h : ck_h b L M D fr y S) (hv : S.1 (b + 5) y = Int32.ofNat n) (hn : n < 16) (hz : S.1 (b + 9) (4 * y + 1) = Int32.ofNat z) : fn_Runner_goOnLet (Int32.ofNat y) (Int32.ofNat 1) S = fn_Runner_begin (Int32.ofNat z) (Int32.ofNat fr) (wd_i S 114 (16 * fr + n) (S.1 104 11)) := by
  have h0 := h
  obtain ⟨hb, a1, a2, a3, a4, a5, a6, a7⟩ := h
  unfold fn_Runner_goOnLet fn_Runner_goOnLet_94 fn_Runner_slot
  have hb1 := hb.1
  have e1 : Int32.ofNat fr * 16 + Int32.ofNat n = Int32.ofNat (16 * fr + n) := by
    rw [show (16 : Int32) = Int32.ofNat 16 from rfl, im_ma, Nat.mul_comm]
  rw [if_neg (show ¬Int32.ofNat 1 = 0 by decide), if_pos (show Int32.ofNat 1 = 1 from rfl), a2, if_pos hb.2.2.1, ct_value hb a7, wd_c_s, hv, ck_112 h0, wd_c_s, wd_c_s, e1, ro_put_ok, wd_d_s, ro_pn cr_114 (show 16 * fr + n < 2576 by omega), fr_i2, a2, if_pos hb.2.2.1]
  have h1 : ck_h b L M D fr y (wd_i S (113 + 1) (16 * fr + n) (S.1 104 11)) := ⟨hb, by rw [fr_i2]; exact a1, by rw [fr_i2]; exact a2, by rw [fr_ne (by omega)]; exact a3, a4, by rw [fr_ne (by omega)]; exact a5, a6, a7⟩
  have e := ct_part (j := 1) (S := wd_i S (113 + 1) (16 * fr + n) (S.1 104 11)) hb a7 (by decide) (z := z) (by rw [fr_ne (by omega)]; exact hz)
  have e : fn_Trees_part (b + 1) (Int32.ofNat y) 1 (wd_i S (113 + 1) (16 * fr + n) (S.1 104 11)) = _ := e
  rw [e, wd_c_s, ck_112 h1, wd_c_s, wd_d_id]
theorem cl_2 : fn_Runner_goOnLet (Int32.ofNat y) (Int32.ofNat 2) S = fn_Runner_finish (S.1 104 11) S := by
  unfold fn_Runner_goOnLet fn_Runner_goOnLet_94
  rw [if_neg (show ¬Int32.ofNat 2 = 0 by decide), if_neg (show ¬Int32.ofNat 2 = 1 by decide), wd_d_id]
theorem ci_0 (h : ck_h b L M D fr y S) (hz : S.1 (b + 9) (4 * y + 0) = Int32.ofNat z) : fn_Runner_goOnIf (Int32.ofNat y) (Int32.ofNat 0) S = fn_Runner_begin (Int32.ofNat z) (Int32.ofNat fr) S := by
  have h0 := h
  obtain ⟨hb, a1, a2, a3, a4, a5, a6, a7⟩ := h
  unfold fn_Runner_goOnIf fn_Runner_goOnIf_82
  rw [if_pos (show Int32.ofNat 0 = 0 from rfl), a2, if_pos hb.2.2.1]
  have e := ct_part (j := 0) (S := S) hb a7 (by decide) hz
  have e : fn_Trees_part (b + 1) (Int32.ofNat y) 0 S = some (Int32.ofNat z, S) := e
  rw [e, wd_c_s, ck_112 h0, wd_c_s, wd_d_id]
theorem ci_1 (h : ck_h b L M D fr y S) (hz : S.1 (b + 9) (4 * y + (if S.1 104 11 = 0 then 2 else 1)) = Int32.ofNat z) : fn_Runner_goOnIf (Int32.ofNat y) (Int32.ofNat 1) S = fn_Runner_begin (Int32.ofNat z) (Int32.ofNat fr) S := by
  have h0 := h
  obtain ⟨hb, a1, a2, a3, a4, a5, a6, a7⟩ := h
  unfold fn_Runner_goOnIf fn_Runner_goOnIf_54 fn_Runner_goOnIf_82
  rw [if_neg (show ¬Int32.ofNat 1 = 0 by decide), if_pos (show Int32.ofNat 1 = 1 from rfl), a2, if_pos hb.2.2.1]
  by_cases c : S.1 104 11 = 0
  · rw [if_pos c] at hz ⊢
    have e := ct_part (j := 2) (S := S) hb a7 (by decide) hz
    have e : fn_Trees_part (b + 1) (Int32.ofNat y) 2 S = some (Int32.ofNat z, S) := e
    rw [e, wd_c_s, ck_112 h0, wd_c_s, wd_d_id]
  · rw [if_neg c] at hz ⊢
    have e := ct_part (j := 1) (S := S) hb a7 (by decide) hz
    have e : fn_Trees_part (b + 1) (Int32.ofNat y) 1 S = some (Int32.ofNat z, S) := e
    rw [e, wd_c_s, ck_112 h0, wd_c_s, wd_d_id]
theorem ci_2 : fn_Runner_goOnIf (Int32.ofNat y) (Int32.ofNat 2) S = fn_Runner_finish (S.1 104 11) S := by
  unfold fn_Runner_goOnIf fn_Runner_goOnIf_82
  rw [if_neg (show ¬Int32.ofNat 2 = 0 by decide), if_neg (show ¬Int32.ofNat 2 = 1 by decide), wd_d_id]
theorem cs_0 (h : ck_h b L M D fr y S) (hz : S.1 (b + 9) (4 * y + 0) = Int32.ofNat z) : fn_Runner_goOnSign (Int32.ofNat y) (Int32.ofNat 0) S = fn_Runner_begin (Int32.ofNat z) (Int32.ofNat fr) S := by
  have h0 := h
  obtain ⟨hb, a1, a2, a3, a4, a5, a6, a7⟩ := h
  unfold fn_Runner_goOnSign fn_Runner_goOnSign_108
  rw [if_pos (show Int32.ofNat 0 = 0 from rfl), a2, if_pos hb.2.2.1]
  have e := ct_part (j := 0) (S := S) hb a7 (by decide) hz
  have e : fn_Trees_part (b + 1) (Int32.ofNat y) 0 S = some (Int32.ofNat z, S) := e
  rw [e, wd_c_s, ck_112 h0, wd_c_s, wd_d_id]
theorem cs_1 (h : ck_h b L M D fr y S) (hz : S.1 (b + 9) (4 * y + 1) = Int32.ofNat z) : fn_Runner_goOnSign (Int32.ofNat y) (Int32.ofNat 1) S = fn_Runner_begin (Int32.ofNat z) (Int32.ofNat fr) (wd_i S 110 D (S.1 104 11)) := by
  obtain ⟨hb, a1, a2, a3, a4, a5, a6, a7⟩ := h
  have hb1 := hb.1
  unfold fn_Runner_goOnSign fn_Runner_goOnSign_108
  rw [if_neg (show ¬Int32.ofNat 1 = 0 by decide), if_pos (show Int32.ofNat 1 = 1 from rfl), a3, ro_put_ok, wd_d_s, ro_pn cr_110 a4, fr_i2, a2, if_pos hb.2.2.1]
  have h1 : ck_h b L M D fr y (wd_i S (109 + 1) D (S.1 104 11)) := ⟨hb, by rw [fr_i2]; exact a1, by rw [fr_i2]; exact a2, by rw [fr_ne (by omega)]; exact a3, a4, by rw [fr_ne (by omega)]; exact a5, a6, a7⟩
  have e := ct_part (j := 1) (S := wd_i S (109 + 1) D (S.1 104 11)) hb a7 (by decide) (z := z) (by rw [fr_ne (by omega)]; exact hz)
  have e : fn_Trees_part (b + 1) (Int32.ofNat y) 1 (wd_i S (109 + 1) D (S.1 104 11)) = _ := e
  rw [e, wd_c_s, ck_112 h1, wd_c_s, wd_d_id]
theorem sp_sign {k a c : Int32} : fn_Sp_signed k a c S = some (ev_sg k a c, S) := by
  unfold fn_Sp_signed fn_Sp_signed_54 fn_Sp_signed_65 ev_sg
  split
  · rfl
  · split
    · rfl
    · split
      · rfl
      · split
        · split <;> rfl
        · split <;> rfl
theorem cs_2 (h : ck_h b L M D fr y S) : fn_Runner_goOnSign (Int32.ofNat y) (Int32.ofNat 2) S = fn_Runner_finish (ev_sg (S.1 (b + 3) y) (S.1 110 D) (S.1 104 11)) S := by
  obtain ⟨hb, a1, a2, a3, a4, a5, a6, a7⟩ := h
  unfold fn_Runner_goOnSign fn_Runner_goOnSign_108
  rw [if_neg (show ¬Int32.ofNat 2 = 0 by decide), if_neg (show ¬Int32.ofNat 2 = 1 by decide), a2, if_pos hb.2.2.1, ct_kind hb a7, wd_c_s, a3, ro_at_ok, wd_c_s, ro_an cr_110 a4, sp_sign, wd_c_s, wd_d_id]
/-- a call's round: what is put away, then an argument or the body -/
def cc_p (D τ : Nat) (S : wd_S) : wd_S := if τ = 0 then S else wd_i S 114 (16 * D + (τ - 1)) (S.1 104 11)
theorem cc_o : of_f (fun a k => a = 114 ∧ 16 * D ≤ k ∧ k < 16 * D + τ) S (cc_p D τ S) := by
  unfold cc_p
  split
  · exact of_refl
  · exact of_i (by omega) of_refl
theorem cc_49 (h : ck_h b L M D fr y S) {a : Nat} (ha : S.1 (b + 7) y = Int32.ofNat a) (ha4 : a ≤ 4) (hτ : τ ≤ a) : fn_Runner_goOnCall (Int32.ofNat y) (Int32.ofNat τ) S = fn_Runner_goOnCall_49 (Int32.ofNat y) (Int32.ofNat τ) (Int32.ofNat a) (cc_p D τ S) := by
  obtain ⟨hb, a1, a2, a3, a4, a5, a6, a7⟩ := h
  unfold fn_Runner_goOnCall cc_p
  rw [a2, if_pos hb.2.2.1, ct_parts hb a7, wd_c_s, ha, if_neg (fun q => by have := (im_lt (by omega) (by omega)).mp q; omega)]
  by_cases c : τ = 0
  · rw [if_pos c, if_neg (show ¬(0 : Int32) < Int32.ofNat τ from fun q => by have := (im_lt (m := 0) (n := τ) (by omega) (by omega)).mp q; omega)]
  · rw [if_neg c, if_pos (show (0 : Int32) < Int32.ofNat τ from (im_lt (m := 0) (n := τ) (by omega) (by omega)).mpr (by omega)), a3]
    obtain ⟨τ, rfl⟩ : ∃ q, τ = q + 1 := ⟨τ - 1, by omega⟩
    have e1 : Int32.ofNat D * 16 + Int32.ofNat (τ + 1) - 1 = Int32.ofNat (16 * D + τ) := by
      rw [show (16 : Int32) = Int32.ofNat 16 from rfl, im_ma, ← Nat.add_assoc, im_p, Nat.mul_comm]
    rw [e1, ro_put_ok, wd_d_s, ro_pn cr_114 (show 16 * D + τ < 2576 by omega)]
    rfl
theorem ck_cc (h : ck_h b L M D fr y S) : ck_h b L M D fr y (cc_p D τ S) := by
  obtain ⟨hb, a1, a2, a3, a4, a5, a6, a7⟩ := h
  have o := cc_o (D := D) (τ := τ) (S := S)
  exact ⟨hb, by rw [o.2.2]; exact a1, by rw [o.2.2]; exact a2, by rw [o.1 104 8 (by omega)]; exact a3, a4, by rw [o.1 112 D (by omega)]; exact a5, a6, a7⟩
theorem cc_arg (h : ck_h b L M D fr y S) {a : Nat} (ha : S.1 (b + 7) y = Int32.ofNat a) (ha4 : a ≤ 4) (hτ : τ < a) (hz : S.1 (b + 9) (4 * y + τ) = Int32.ofNat z) : fn_Runner_goOnCall (Int32.ofNat y) (Int32.ofNat τ) S = fn_Runner_begin (Int32.ofNat z) (Int32.ofNat fr) (cc_p D τ S) := by
  rw [cc_49 h ha ha4 (by omega)]
  have h1 := ck_cc (τ := τ) h
  obtain ⟨hb, a1, a2, a3, a4, a5, a6, a7⟩ := ck_cc (τ := τ) h
  have hb1 := hb.1
  unfold fn_Runner_goOnCall_49 fn_Runner_goOnCall_104
  rw [if_pos ((im_lt (by omega) (by omega)).mpr hτ), a2, if_pos hb.2.2.1, ct_part hb a7 (show τ < 4 by omega) (z := z) (by rw [cc_o.1 (b + 9) _ (by omega)]; exact hz), wd_c_s, ck_112 h1, wd_c_s, wd_d_id]
theorem cc_body (h : ck_h b L M D fr y S) {a : Nat} (ha : S.1 (b + 7) y = Int32.ofNat a) (ha4 : a ≤ 4) (hv : S.1 (b + 5) y = Int32.ofNat n) (hn : n < M) (hz : S.1 (b + 15) n = Int32.ofNat z) : fn_Runner_goOnCall (Int32.ofNat y) (Int32.ofNat a) S = fn_Runner_begin (Int32.ofNat z) (Int32.ofNat D) (cc_p D a S) := by
  rw [cc_49 h ha ha4 (Nat.le_refl _)]
  obtain ⟨hb, a1, a2, a3, a4, a5, a6, a7⟩ := ck_cc (τ := a) h
  have hb0 := hb
  obtain ⟨hb1, hb2, hb3, hb4, hb5, hb6, hb7⟩ := hb
  unfold fn_Runner_goOnCall_49 fn_Runner_goOnCall_104
  rw [if_neg (fun q => by have := (im_lt (by omega) (by omega)).mp q; omega), a1, if_pos hb2, a2, if_pos hb3, ct_value hb0 a7, wd_c_s, cc_o.1 (b + 5) y (by omega), hv, fo_root, wd_c_s, ro_an (r := b + 14) hb5 hn, a3, wd_d_id]
  show fn_Runner_begin ((cc_p D a S).1 (b + 15) n) _ _ = _
  rw [cc_o.1 (b + 15) n (by omega), hz]
theorem cc_end (h : ck_h b L M D fr y S) {a : Nat} (ha : S.1 (b + 7) y = Int32.ofNat a) (ha4 : a ≤ 4) : fn_Runner_goOnCall (Int32.ofNat y) (Int32.ofNat (a + 1)) S = fn_Runner_finish (S.1 104 11) S := by
  obtain ⟨hb, a1, a2, a3, a4, a5, a6, a7⟩ := h
  unfold fn_Runner_goOnCall
  rw [a2, if_pos hb.2.2.1, ct_parts hb a7, wd_c_s, ha, if_pos ((im_lt (by omega) (by omega)).mpr (by omega)), wd_d_id]
end Ck
