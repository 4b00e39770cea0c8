/-! The reference's maker: choices and lets. -/
section Mm5
variable {B h : Nat} {pg : pg_T} {S0 S S' S1 S2 S3 : wd_S} {N N' : mk_N} {s s' : mk_S} {k n mn ma ml k' n' mn' ma' ml' mn1 ma1 ml1 y z z1 z2 z3 d r c p i : Nat} {t T1 T2 T3 : tr_T} {x v : Int32} {R R1 R2 R3 : mk_R}
/-- CHOSEN, of a NUMBER -/
theorem mm_chs_n (hX : mm_X B h pg S0) (hh : mm_h B h pg S0 N s (k + 1) (n + 1) mn ma ml S) (hk : k < 4000) (hn : n + 2 ≤ 4000) (h165 : S.1 165 k = 3) (h166 : S.1 166 k = Int32.ofNat y) (hy : y < 3004) (h167 : S.1 167 n = 1) (hz : (if S.1 168 n = 0 then S.1 146 y else S.1 145 y) = Int32.ofNat z) : ∃ S', mm_go 1 S S' ∧ mm_h B h pg S0 N s (k + 1) n mn ma ml S' ∧ S'.1 165 k = 1 ∧ S'.1 166 k = Int32.ofNat z ∧ of_f (mm_F B k n mn ma) S S' := by
  have h1 := mm_pop_h hh
  have h2 : mm_h B h pg S0 N s k n mn ma ml (wd_i (wd_i S 135 76 (Int32.ofNat k)) 135 79 (Int32.ofNat n)) := mm_h_79 h1
  have e79 : (wd_i S 135 76 (Int32.ofNat k)).1 135 79 - 1 = Int32.ofNat n := by
    rw [h1.2.2.2.2.2.2.2.2.2.1]
    exact im_sb n 1
  have q76 : (wd_i (wd_i S 135 76 (Int32.ofNat k)) 135 79 (Int32.ofNat n)).1 135 76 = Int32.ofNat k := h2.2.2.2.2.2.2.2.2.1
  have q79 : (wd_i (wd_i S 135 76 (Int32.ofNat k)) 135 79 (Int32.ofNat n)).1 135 79 = Int32.ofNat n := fr_eq
  have ef : fn_Mo_onMaking 3 (Int32.ofNat y) (wd_i S 135 76 (Int32.ofNat k)) = fn_Mo_later 1 (Int32.ofNat z) (wd_i (wd_i S 135 76 (Int32.ofNat k)) 135 79 (Int32.ofNat n)) := by
    unfold fn_Mo_onMaking
    rw [if_neg (show ¬(3 : Int32) = 1 by decide), if_neg (show ¬(3 : Int32) = 2 by decide), if_pos rfl]
    unfold fn_Mo_onMaking_242 fn_Mo_onMaking_566
    simp only [wd_b, wd_d_id]
    rw [e79, if_neg (ms_in (show n < 4000 by omega) (by decide)), im_t (show n < 2147483648 by omega), fr_ne (show ¬(167 = 135 ∧ _) by omega), h167, if_neg (show ¬(1 : Int32) = 0 by decide), q79, if_neg (ms_in (show n < 4000 by omega) (by decide)), im_t (show n < 2147483648 by omega), if_neg (ms_in (show y < 15010 by omega) (by decide)), im_t (show y < 2147483648 by omega), fr_ne (show ¬(168 = 135 ∧ _) by omega), fr_ne (show ¬(168 = 135 ∧ _) by omega), fr_ne (show ¬(146 = 135 ∧ _) by omega), fr_ne (show ¬(146 = 135 ∧ _) by omega), fr_ne (show ¬(145 = 135 ∧ _) by omega), fr_ne (show ¬(145 = 135 ∧ _) by omega)]
    by_cases e : S.1 168 n = 0
    · rw [if_pos e]; rw [if_pos e] at hz; rw [hz]
    · rw [if_neg e, if_neg (ms_iy (show y < 15010 by omega) (by decide))]; rw [if_neg e] at hz; rw [hz]
  rw [mm_later q76 hk] at ef
  exact ⟨_, mm_pop hh hk (by rw [h165, h166]; exact ef), mm_h_p h2, by rw [ml_165, if_pos rfl], by rw [ml_166, if_pos rfl], of_trans (of_i (Or.inl ⟨rfl, by omega⟩) (of_i (Or.inl ⟨rfl, by omega⟩) of_refl)) (of_mono (fun a b z => mm_w_F a b (by unfold mm_w; omega)) ml_o)⟩
/-- CHOSEN, of a REST -/
theorem mm_chs_r (hX : mm_X B h pg S0) (hh : mm_h B h pg S0 N s (k + 1) (n + 1) mn ma ml S) (hk : k + 3 ≤ 4000) (hn : n + 2 ≤ 4000) (h165 : S.1 165 k = 3) (h166 : S.1 166 k = Int32.ofNat y) (hy : y < 3004) (h167 : S.1 167 n = 0) : ∃ S', mm_go 1 S S' ∧ mm_h B h pg S0 N s (k + 3) (n + 1) mn ma ml S' ∧ S'.1 165 k = 4 ∧ S'.1 166 k = Int32.ofNat y ∧ S'.1 165 (k + 1) = 1 ∧ S'.1 166 (k + 1) = S.1 146 y ∧ S'.1 165 (k + 2) = 1 ∧ S'.1 166 (k + 2) = S.1 145 y ∧ of_f (fun a b => (a = 135 ∧ b = 76) ∨ ((a = 165 ∨ a = 166) ∧ k ≤ b)) S S' := by
  have h1 := mm_pop_h hh
  have q76 : (wd_i S 135 76 (Int32.ofNat k)).1 135 76 = Int32.ofNat k := fr_eq
  have e79 : (wd_i S 135 76 (Int32.ofNat k)).1 135 79 - 1 = Int32.ofNat n := by
    rw [h1.2.2.2.2.2.2.2.2.2.1]
    exact im_sb n 1
  have ef : fn_Mo_onMaking 3 (Int32.ofNat y) (wd_i S 135 76 (Int32.ofNat k)) = some (ml_p (k + 2) 1 (S.1 145 y) (ml_p (k + 1) 1 (S.1 146 y) (ml_p k 4 (Int32.ofNat y) (wd_i S 135 76 (Int32.ofNat k))))) := by
    unfold fn_Mo_onMaking
    rw [if_neg (show ¬(3 : Int32) = 1 by decide), if_neg (show ¬(3 : Int32) = 2 by decide), if_pos rfl]
    unfold fn_Mo_onMaking_566
    simp only [wd_b]
    rw [e79, if_neg (ms_in (show n < 4000 by omega) (by decide)), im_t (show n < 2147483648 by omega), fr_ne (show ¬(167 = 135 ∧ _) by omega), h167, if_pos rfl, mm_later q76 (by omega), wd_d_s, if_neg (ms_in (show y < 15010 by omega) (by decide)), mm_later ml_76 (by omega), wd_d_s, if_neg (ms_in (show y < 15010 by omega) (by decide)), mm_later ml_76 (by omega), wd_d_s, im_t (show y < 2147483648 by omega), ml_row (by decide) (by decide) (by decide), ml_row (by decide) (by decide) (by decide), ml_row (by decide) (by decide) (by decide), fr_ne (show ¬(146 = 135 ∧ _) by omega), fr_ne (show ¬(145 = 135 ∧ _) by omega)]
  refine ⟨_, mm_pop hh (by omega) (by rw [h165, h166]; exact ef), mm_h_p (mm_h_p (mm_h_p h1)), ?_, ?_, ?_, ?_, ?_, ?_, of_trans (of_i (by omega) of_refl) (of_trans (of_mono (fun a b z => by omega) ml_o) (of_trans (of_mono (fun a b z => by omega) ml_o) (of_mono (fun a b z => by omega) ml_o)))⟩
  · rw [ml_165, if_neg (by omega), ml_165, if_neg (by omega), ml_165, if_pos rfl]
  · rw [ml_166, if_neg (by omega), ml_166, if_neg (by omega), ml_166, if_pos rfl]
  · rw [ml_165, if_neg (by omega), ml_165, if_pos rfl]
  · rw [ml_166, if_neg (by omega), ml_166, if_pos rfl]
  · rw [ml_165, if_pos rfl]
  · rw [ml_166, if_pos rfl]
/-- CHOICES -/
theorem mm_chc (hX : mm_X B h pg S0) (hh : mm_h B h pg S0 N s (k + 1) (n + 3) mn1 ma1 ml1 S) (hk : k < 4000) (hn : n + 3 ≤ 4000) (h165 : S.1 165 k = 4) (h166 : S.1 166 k = Int32.ofNat y) (hr : 1 ≤ r) (r1 : mm_r B mn1 ma1 r n R1 S) (r2 : mm_r B mn1 ma1 r (n + 1) R2 S) (r3 : mm_r B mn1 ma1 r (n + 2) R3 S) (n1 : mk_nn R1) (n2 : mk_nn R2) (n3 : mk_nn R3) (hmn : mn1 = mn + mm_nz R1 + mm_nz R2 + mm_nz R3) (hma : ma1 ≤ mm_nz R1 + mm_nz R2 + mm_nz R3 + ma) (hma0 : ma ≤ ma1) (hml : ml1 = ml + R1.2.2 + R2.2.2 + R3.2.2) (hb : mn + 1 + R1.2.1 + R2.2.1 + R3.2.1 ≤ 1000) (hc : c + 1 ≤ 3 * s.2.1) : mm_O B h pg S0 (r + 1) k n mn ma ml c (.ok ((tr_3 4 0 0 R1.1 R2.1 R3.1, 1 + R1.2.1 + R2.2.1 + R3.2.1, R1.2.2 + R2.2.2 + R3.2.2), N, s)) S := by
  have hB := hX.1
  have z1 := mm_nzi n1
  have z2 := mm_nzi n2
  have z3 := mm_nzi n3
  have i1 := mm_i1 R1
  have i2 := mm_i1 R2
  have i3 := mm_i1 R3
  have h1 := mm_pop_h hh
  have h2 : mm_h B h pg S0 N s k n mn1 ma1 ml1 (wd_i (wd_i S 135 76 (Int32.ofNat k)) 135 79 (Int32.ofNat n)) := mm_h_79 h1
  have e79 : (wd_i S 135 76 (Int32.ofNat k)).1 135 79 - 3 = Int32.ofNat n := by
    rw [h1.2.2.2.2.2.2.2.2.2.1]
    exact im_sb n 3
  have o2 : ∀ k0 n0, of_f (mm_F B k0 n0 mn1 ma1) S (wd_i (wd_i S 135 76 (Int32.ofNat k)) 135 79 (Int32.ofNat n)) := fun k0 n0 => of_i (Or.inl ⟨rfl, by omega⟩) (of_i (Or.inl ⟨rfl, by omega⟩) of_refl)
  have r1' := mm_r_o (o2 0 (n + 3)) (show n < n + 3 by omega) (Nat.le_refl _) (Nat.le_refl _) r1
  have r2' := mm_r_o (o2 0 (n + 3)) (show n + 1 < n + 3 by omega) (Nat.le_refl _) (Nat.le_refl _) r2
  have r3' := mm_r_o (o2 0 (n + 3)) (show n + 2 < n + 3 by omega) (Nat.le_refl _) (Nat.le_refl _) r3
  have q79 : (wd_i (wd_i S 135 76 (Int32.ofNat k)) 135 79 (Int32.ofNat n)).1 135 79 = Int32.ofNat n := fr_eq
  have ep : ∀ S', fn_Mo_onMaking 4 (Int32.ofNat y) (wd_i S 135 76 (Int32.ofNat k)) = some S' → mm_go 1 S S' := fun S' q => mm_pop hh hk (by rw [h165, h166]; exact q)
  unfold fn_Mo_onMaking at ep
  rw [if_neg (show ¬(4 : Int32) = 1 by decide), if_neg (show ¬(4 : Int32) = 2 by decide), if_neg (show ¬(4 : Int32) = 3 by decide), if_pos rfl] at ep
  unfold fn_Mo_onMaking_566 at ep
  simp only [wd_b, wd_d_id] at ep
  rw [e79] at ep
  generalize wd_i (wd_i S 135 76 (Int32.ofNat k)) 135 79 (Int32.ofNat n) = S2 at *
  obtain ⟨x1, S3, f3, h3, t3, o3⟩ := mm_node hX h2 (show n < 4000 by omega) r1' hr (by omega)
  have h3 : mm_h B h pg S0 N s k n (mn1 + mm_i R1) ma1 ml1 S3 := h3
  have t3 : mm_t B (mn1 + mm_i R1) ma1 r x1 R1.1 S3 := t3
  have r2'' : mm_r B (mn1 + mm_i R1) ma1 r (n + 1) R2 S3 := mm_r_o (k0 := 0) (n0 := n + 3) (mm_nw hX (by omega) o3 (Nat.le_refl _)) (show n + 1 < n + 3 by omega) (Nat.le_add_right _ _) (Nat.le_refl _) r2'
  have r3'' : mm_r B (mn1 + mm_i R1) ma1 r (n + 2) R3 S3 := mm_r_o (k0 := 0) (n0 := n + 3) (mm_nw hX (by omega) o3 (Nat.le_refl _)) (show n + 2 < n + 3 by omega) (Nat.le_add_right _ _) (Nat.le_refl _) r3'
  obtain ⟨x2, S4, f4, h4, t4, o4⟩ := mm_node hX h3 (show n + 1 < 4000 by omega) r2'' hr (by omega)
  have h4 : mm_h B h pg S0 N s k n (mn1 + mm_i R1 + mm_i R2) ma1 ml1 S4 := h4
  have t4 : mm_t B (mn1 + mm_i R1 + mm_i R2) ma1 r x2 R2.1 S4 := t4
  have r3a : mm_r B (mn1 + mm_i R1 + mm_i R2) ma1 r (n + 2) R3 S4 := mm_r_o (k0 := 0) (n0 := n + 3) (mm_nw hX (by omega) o4 (Nat.le_refl _)) (show n + 2 < n + 3 by omega) (Nat.le_add_right _ _) (Nat.le_refl _) r3''
  obtain ⟨x3, S5, f5, h5, t5, o5⟩ := mm_node hX h4 (show n + 2 < 4000 by omega) r3a hr (by omega)
  have h5 : mm_h B h pg S0 N s k n (mn1 + mm_i R1 + mm_i R2 + mm_i R3) ma1 ml1 S5 := h5
  have t5 : mm_t B (mn1 + mm_i R1 + mm_i R2 + mm_i R3) ma1 r x3 R3.1 S5 := t5
  obtain ⟨h6, o6, g3, g4, g5, g6⟩ := mm_mk hX h5 (by omega) (κ := 2) (a := Int32.ofNat x1) (b := Int32.ofNat x2) (e := Int32.ofNat x3)
  have e79' : S3.1 135 79 = Int32.ofNat n := h3.2.2.2.2.2.2.2.2.2.1
  have e79'' : S4.1 135 79 = Int32.ofNat n := h4.2.2.2.2.2.2.2.2.2.1
  have e2 : Int32.ofNat n + 2 = Int32.ofNat (n + 2) := (Int32.ofNat_add n 2).symm
  rw [q79, f3, wd_c_s, e79', im_s, f4, wd_c_s, e79'', e2, f5, wd_c_s, mm_cfg hX h5 (by omega), wd_c_s, if_neg (ms_in (show 3004 + 6002 * B + (mn1 + mm_i R1 + mm_i R2 + mm_i R3) < 15010 by omega) (by decide)), if_neg (ms_in (show 3004 + 6002 * B + (mn1 + mm_i R1 + mm_i R2 + mm_i R3) < 15010 by omega) (by decide)), if_neg (ms_in (show 3004 + 6002 * B + (mn1 + mm_i R1 + mm_i R2 + mm_i R3) < 15010 by omega) (by decide)), im_t (show 3004 + 6002 * B + (mn1 + mm_i R1 + mm_i R2 + mm_i R3) < 2147483648 by omega)] at ep
  generalize wd_i (wd_i (wd_i (wd_i (wd_i S5 135 66 (Int32.ofNat (mn1 + mm_i R1 + mm_i R2 + mm_i R3 + 1))) 143 (3004 + 6002 * B + (mn1 + mm_i R1 + mm_i R2 + mm_i R3)) 2) 144 (3004 + 6002 * B + (mn1 + mm_i R1 + mm_i R2 + mm_i R3)) (Int32.ofNat x1)) 145 (3004 + 6002 * B + (mn1 + mm_i R1 + mm_i R2 + mm_i R3)) (Int32.ofNat x2)) 146 (3004 + 6002 * B + (mn1 + mm_i R1 + mm_i R2 + mm_i R3)) (Int32.ofNat x3) = S6 at *
  have w4 := mm_nw hX (by omega) o4 (k0 := k) (n0 := n) (mn0 := mn1 + mm_i R1) (ma0 := ma1) (by omega)
  have w5 := mm_nw hX (by omega) o5 (k0 := k) (n0 := n) (mn0 := mn1 + mm_i R1 + mm_i R2) (ma0 := ma1) (by omega)
  have w6 := mm_nw hX (by omega) o6 (k0 := k) (n0 := n) (mn0 := mn1 + mm_i R1 + mm_i R2 + mm_i R3) (ma0 := ma1) (by omega)
  have t3' := mm_t_o w6 (mn' := mn1 + mm_i R1 + mm_i R2 + mm_i R3 + 1) (by omega) (Nat.le_refl _) (mm_t_o w5 (mn' := mn1 + mm_i R1 + mm_i R2 + mm_i R3) (by omega) (Nat.le_refl _) (mm_t_o w4 (mn' := mn1 + mm_i R1 + mm_i R2) (by omega) (Nat.le_refl _) t3))
  have t4' := mm_t_o w6 (mn' := mn1 + mm_i R1 + mm_i R2 + mm_i R3 + 1) (by omega) (Nat.le_refl _) (mm_t_o w5 (mn' := mn1 + mm_i R1 + mm_i R2 + mm_i R3) (by omega) (Nat.le_refl _) t4)
  have t5' := mm_t_o w6 (mn' := mn1 + mm_i R1 + mm_i R2 + mm_i R3 + 1) (by omega) (Nat.le_refl _) t5
  have og := mg_o (n := n) (x := 0) (v := Int32.ofNat (3004 + 6002 * B + (mn1 + mm_i R1 + mm_i R2 + mm_i R3))) (S := S6)
  have w7 : of_f (mm_F B k n (mn1 + mm_i R1 + mm_i R2 + mm_i R3 + 1) ma1) S6 (mg_p n 0 (Int32.ofNat (3004 + 6002 * B + (mn1 + mm_i R1 + mm_i R2 + mm_i R3))) S6) := of_mono (fun a b z => mm_w_F a b (by unfold mm_w; omega)) og
  refine mm_close (z := 3004 + 6002 * B + (mn1 + mm_i R1 + mm_i R2 + mm_i R3)) (mm_h_g h6) (show ¬(4 : Int32) = 1 by decide) ?_ ?_ hma0 ?_ mg_167 mg_168 (mm_t_o w7 (Nat.le_refl _) (Nat.le_refl _) ⟨by omega, by omega, Or.inr (Or.inr (Or.inr (Or.inl ⟨rfl, rfl, g3, x1, x2, x3, g4, g5, g6, t3', t4', t5'⟩)))⟩) ?_ (ep _ (mm_gives (h6.2.2.2.2.2.2.2.2.2.1) (by omega) (Or.inl rfl))) hc
  · show _ = mn + (1 + R1.2.1 + R2.2.1 + R3.2.1)
    omega
  · show _ ≤ 1 + R1.2.1 + R2.2.1 + R3.2.1 + ma
    omega
  · show ml1 = ml + (R1.2.2 + R2.2.2 + R3.2.2)
    omega
  · exact of_trans (of_mono (mm_F_le (Nat.le_refl _) (Nat.le_refl _) (by omega) hma0) (o2 k n)) (of_trans (mm_nw hX (by omega) o3 (by omega)) (of_trans (mm_nw hX (by omega) o4 (by omega)) (of_trans (mm_nw hX (by omega) o5 (by omega)) (of_trans (mm_nw hX (by omega) o6 (by omega)) (of_mono (mm_F_le (Nat.le_refl _) (Nat.le_refl _) (by omega) hma0) w7)))))
/-- LETS -/
theorem mm_lts (hX : mm_X B h pg S0) (hh : mm_h B h pg S0 N s (k + 1) (n + 2) mn1 ma1 ml1 S) (hk : k < 4000) (hn : n + 2 ≤ 4000) (h165 : S.1 165 k = 5) (h166 : S.1 166 k = Int32.ofNat y) (hy : y < 3004) (hi : i < 16) (h146 : S.1 146 y = Int32.ofNat i) (hr : 1 ≤ r) (r1 : mm_r B mn1 ma1 r n R1 S) (r2 : mm_r B mn1 ma1 r (n + 1) R2 S) (n1 : mk_nn R1) (n2 : mk_nn R2) (hmn : mn1 = mn + mm_nz R1 + mm_nz R2) (hma : ma1 ≤ mm_nz R1 + mm_nz R2 + ma) (hma0 : ma ≤ ma1) (hml : ml1 = ml + R1.2.2 + R2.2.2) (hb : mn + 1 + R1.2.1 + R2.2.1 ≤ 1000) (hc : c + 1 ≤ 3 * s.2.1) : mm_O B h pg S0 (r + 1) k n mn ma ml c (.ok ((tr_2 3 (Int32.ofNat i) 0 R1.1 R2.1, 1 + R1.2.1 + R2.2.1, 1 + R1.2.2 + R2.2.2), N, s)) S := by
  have hB := hX.1
  have z1 := mm_nzi n1
  have z2 := mm_nzi n2
  have i1 := mm_i1 R1
  have i2 := mm_i1 R2
  have h1 := mm_pop_h hh
  have h2 : mm_h B h pg S0 N s k n mn1 ma1 ml1 (wd_i (wd_i S 135 76 (Int32.ofNat k)) 135 79 (Int32.ofNat n)) := mm_h_79 h1
  have e79 : (wd_i S 135 76 (Int32.ofNat k)).1 135 79 - 2 = Int32.ofNat n := by
    rw [h1.2.2.2.2.2.2.2.2.2.1]
    exact im_sb n 2
  have o2 : ∀ k0 n0, of_f (mm_F B k0 n0 mn1 ma1) S (wd_i (wd_i S 135 76 (Int32.ofNat k)) 135 79 (Int32.ofNat n)) := fun k0 n0 => of_i (Or.inl ⟨rfl, by omega⟩) (of_i (Or.inl ⟨rfl, by omega⟩) of_refl)
  have r1' := mm_r_o (o2 0 (n + 2)) (show n < n + 2 by omega) (Nat.le_refl _) (Nat.le_refl _) r1
  have r2' := mm_r_o (o2 0 (n + 2)) (show n + 1 < n + 2 by omega) (Nat.le_refl _) (Nat.le_refl _) r2
  have q79 : (wd_i (wd_i S 135 76 (Int32.ofNat k)) 135 79 (Int32.ofNat n)).1 135 79 = Int32.ofNat n := fr_eq
  have y146 : (wd_i (wd_i S 135 76 (Int32.ofNat k)) 135 79 (Int32.ofNat n)).1 146 y = Int32.ofNat i := by rw [fr_ne (by omega), fr_ne (by omega)]; exact h146
  have ep : ∀ S', fn_Mo_onMaking 5 (Int32.ofNat y) (wd_i S 135 76 (Int32.ofNat k)) = some S' → mm_go 1 S S' := fun S' q => mm_pop hh hk (by rw [h165, h166]; exact q)
  unfold fn_Mo_onMaking at ep
  rw [if_neg (show ¬(5 : Int32) = 1 by decide), if_neg (show ¬(5 : Int32) = 2 by decide), if_neg (show ¬(5 : Int32) = 3 by decide), if_neg (show ¬(5 : Int32) = 4 by decide), if_pos rfl] at ep
  unfold fn_Mo_onMaking_566 at ep
  simp only [wd_b, wd_d_id] at ep
  rw [e79] at ep
  generalize wd_i (wd_i S 135 76 (Int32.ofNat k)) 135 79 (Int32.ofNat n) = S2 at *
  obtain ⟨x1, S3, f3, h3, t3, o3⟩ := mm_node hX h2 (show n < 4000 by omega) r1' hr (by omega)
  have h3 : mm_h B h pg S0 N s k n (mn1 + mm_i R1) ma1 ml1 S3 := h3
  have t3 : mm_t B (mn1 + mm_i R1) ma1 r x1 R1.1 S3 := t3
  have r2'' : mm_r B (mn1 + mm_i R1) ma1 r (n + 1) R2 S3 := mm_r_o (k0 := 0) (n0 := n + 2) (mm_nw hX (by omega) o3 (Nat.le_refl _)) (show n + 1 < n + 2 by omega) (Nat.le_add_right _ _) (Nat.le_refl _) r2'
  obtain ⟨x2, S4, f4, h4, t4, o4⟩ := mm_node hX h3 (show n + 1 < 4000 by omega) r2'' hr (by omega)
  have h4 : mm_h B h pg S0 N s k n (mn1 + mm_i R1 + mm_i R2) ma1 ml1 S4 := h4
  have t4 : mm_t B (mn1 + mm_i R1 + mm_i R2) ma1 r x2 R2.1 S4 := t4
  obtain ⟨h5, o5, g3, g4, g5, g6⟩ := mm_mk hX h4 (by omega) (κ := 3) (a := Int32.ofNat x1) (b := Int32.ofNat x2) (e := Int32.ofNat i)
  have y146' : S4.1 146 y = Int32.ofNat i := by rw [o4.1 146 y (by omega), o3.1 146 y (by omega)]; exact y146
  have e79' : S3.1 135 79 = Int32.ofNat n := h3.2.2.2.2.2.2.2.2.2.1
  rw [q79, f3, wd_c_s, e79', im_s, f4, wd_c_s, mm_cfg hX h4 (by omega), wd_c_s, if_neg (ms_in (show 3004 + 6002 * B + (mn1 + mm_i R1 + mm_i R2) < 15010 by omega) (by decide)), if_neg (ms_in (show 3004 + 6002 * B + (mn1 + mm_i R1 + mm_i R2) < 15010 by omega) (by decide)), if_neg (ms_in (show y < 15010 by omega) (by decide)), if_neg (ms_in (show 3004 + 6002 * B + (mn1 + mm_i R1 + mm_i R2) < 15010 by omega) (by decide)), im_t (show 3004 + 6002 * B + (mn1 + mm_i R1 + mm_i R2) < 2147483648 by omega), im_t (show y < 2147483648 by omega), fr_ne (show ¬(146 = 145 ∧ _) by omega), fr_ne (show ¬(146 = 144 ∧ _) by omega), fr_ne (show ¬(146 = 143 ∧ _) by omega), fr_ne (show ¬(146 = 135 ∧ _) by omega), y146'] at ep
  generalize wd_i (wd_i (wd_i (wd_i (wd_i S4 135 66 (Int32.ofNat (mn1 + mm_i R1 + mm_i R2 + 1))) 143 (3004 + 6002 * B + (mn1 + mm_i R1 + mm_i R2)) 3) 144 (3004 + 6002 * B + (mn1 + mm_i R1 + mm_i R2)) (Int32.ofNat x1)) 145 (3004 + 6002 * B + (mn1 + mm_i R1 + mm_i R2)) (Int32.ofNat x2)) 146 (3004 + 6002 * B + (mn1 + mm_i R1 + mm_i R2)) (Int32.ofNat i) = S5 at *
  rw [h5.2.2.2.2.2.1, im_s] at ep
  have o6 : of_f (fun a b => a = 135 ∧ b = 70) S5 (wd_i S5 135 70 (Int32.ofNat (ml1 + 1))) := of_i ⟨rfl, rfl⟩ of_refl
  have h6 : mm_h B h pg S0 N s k n (mn1 + mm_i R1 + mm_i R2 + 1) ma1 (ml1 + 1) (wd_i S5 135 70 (Int32.ofNat (ml1 + 1))) := by
    obtain ⟨a1, a2, a3, a4, a5, a6, a7, a8, a9, a10, a11, a12, a13⟩ := id h5
    exact mm_hw (k0 := 0) (n0 := 0) (mn0 := 0) (ma0 := 0) h5 (of_mono (fun a b z => by unfold mm_w; omega) o6) (by rw [fr_ne (by omega)]; exact a2) (by rw [fr_ne (by omega)]; exact a3) fr_eq (by rw [fr_ne (by omega)]; exact a9) (by rw [fr_ne (by omega)]; exact a10) a11 a12
  generalize wd_i S5 135 70 (Int32.ofNat (ml1 + 1)) = S6 at *
  have w4 := mm_nw hX (by omega) o4 (k0 := k) (n0 := n) (mn0 := mn1 + mm_i R1) (ma0 := ma1) (by omega)
  have w5 := mm_nw hX (by omega) o5 (k0 := k) (n0 := n) (mn0 := mn1 + mm_i R1 + mm_i R2) (ma0 := ma1) (by omega)
  have t3' := mm_t_o w5 (mn' := mn1 + mm_i R1 + mm_i R2 + 1) (by omega) (Nat.le_refl _) (mm_t_o w4 (mn' := mn1 + mm_i R1 + mm_i R2) (by omega) (Nat.le_refl _) t3)
  have t4' := mm_t_o w5 (mn' := mn1 + mm_i R1 + mm_i R2 + 1) (by omega) (Nat.le_refl _) t4
  have og := mg_o (n := n) (x := 0) (v := Int32.ofNat (3004 + 6002 * B + (mn1 + mm_i R1 + mm_i R2))) (S := S6)
  have w6 : of_f (mm_F B k n (mn1 + mm_i R1 + mm_i R2 + 1) ma1) S5 (mg_p n 0 (Int32.ofNat (3004 + 6002 * B + (mn1 + mm_i R1 + mm_i R2))) S6) := of_trans (of_mono (fun a b z => mm_w_F a b (by unfold mm_w; omega)) o6) (of_mono (fun a b z => mm_w_F a b (by unfold mm_w; omega)) og)
  refine mm_close (z := 3004 + 6002 * B + (mn1 + mm_i R1 + mm_i R2)) (mm_h_g h6) (show ¬(3 : Int32) = 1 by decide) ?_ ?_ hma0 ?_ mg_167 mg_168 (mm_t_o w6 (Nat.le_refl _) (Nat.le_refl _) ⟨by omega, by omega, Or.inr (Or.inr (Or.inl ⟨rfl, rfl, g3, g6, ⟨i, hi, rfl⟩, x1, x2, g4, g5, t3', t4'⟩))⟩) ?_ (ep _ (mm_gives (h6.2.2.2.2.2.2.2.2.2.1) (by omega) (Or.inl rfl))) hc
  · show _ = mn + (1 + R1.2.1 + R2.2.1)
    omega
  · show _ ≤ 1 + R1.2.1 + R2.2.1 + ma
    omega
  · show ml1 + 1 = ml + (1 + R1.2.2 + R2.2.2)
    omega
  · exact of_trans (of_mono (mm_F_le (Nat.le_refl _) (Nat.le_refl _) (by omega) hma0) (o2 k n)) (of_trans (mm_nw hX (by omega) o3 (by omega)) (of_trans (mm_nw hX (by omega) o4 (by omega)) (of_trans (mm_nw hX (by omega) o5 (by omega)) (of_mono (mm_F_le (Nat.le_refl _) (Nat.le_refl _) (by omega) hma0) w6))))
end Mm5
