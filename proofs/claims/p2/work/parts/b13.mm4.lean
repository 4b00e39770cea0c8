/-! The reference's maker: signs, choices, lets. -/
theorem im_sb (n m : Nat) : Int32.ofNat (n + m) - Int32.ofNat m = Int32.ofNat n := by rw [Int32.ofNat_add, Int32.add_sub_cancel]
def mm_i (R : mk_R) : Nat := if tr_k R.1 = 1 then 1 else 0
theorem mm_nzi {R : mk_R} (h : mk_nn R) : mm_nz R + mm_i R = R.2.1 := by
  unfold mm_nz mm_i
  by_cases e : tr_k R.1 = 1
  · rw [if_pos e, if_pos e, h e]
  · rw [if_neg e, if_neg e]; rfl
theorem mm_i1 (R : mk_R) : mm_i R ≤ 1 := by
  unfold mm_i
  split <;> omega
section Mm4
variable {B h : Nat} {pg : pg_T} {S0 S S' S1 S2 S3 : wd_S} {N N' : mk_N} {s s' : mk_S} {k n mn ma ml k' n' mn' ma' ml' mn1 ma1 ml1 y z z1 z2 z3 d r c p : Nat} {t T1 T2 T3 : tr_T} {x v : Int32} {R R1 R2 R3 : mk_R}
theorem mm_close (hh : mm_h B h pg S0 N s k (n + 1) mn1 ma1 ml1 S') (hk : ¬tr_k R.1 = 1) (hmn : mn1 = mn + R.2.1) (hma : ma1 + 1 ≤ R.2.1 + ma) (hma0 : ma ≤ ma1) (hml : ml1 = ml + R.2.2) (h167 : S'.1 167 n = 0) (h168 : S'.1 168 n = Int32.ofNat z) (ht : mm_t B mn1 ma1 r z R.1 S') (ho : of_f (mm_F B k n mn ma) S S') (hg : mm_go 1 S S') (hc : c + 1 ≤ 3 * s.2.1) : mm_O B h pg S0 r k n mn ma ml c (.ok (R, N, s)) S := by
  have e : mm_nz R = R.2.1 := if_neg hk
  subst hmn hml
  refine ⟨1, S', hg, by show 1 + c ≤ 3 * s.2.1; omega, ma1, ?_, ?_, hma0, ?_, ho⟩
  · show mm_h B h pg S0 N s k (n + 1) (mn + mm_nz R) ma1 (ml + R.2.2) S'
    rw [e]; exact hh
  · show if tr_k R.1 = 1 then ma1 = ma else ma1 + 1 ≤ mm_nz R + ma
    rw [if_neg hk, e]; exact hma
  · refine Or.inr ⟨hk, h167, z, h168, ?_⟩
    show mm_t B (mn + mm_nz R) ma1 r z R.1 S'
    rw [e]; exact ht
theorem mm_close_n (hh : mm_h B h pg S0 N s k (n + 1) mn ma ml S') (h167 : S'.1 167 n = 1) (h168 : S'.1 168 n = v) (ho : of_f (mm_F B k n mn ma) S S') (hg : mm_go 1 S S') (hc : c + 1 ≤ 3 * s.2.1) : mm_O B h pg S0 r k n mn ma ml c (.ok (mk_n v, N, s)) S := ⟨1, S', hg, by show 1 + c ≤ 3 * s.2.1; omega, ma, hh, rfl, Nat.le_refl _, Or.inl ⟨rfl, h167, h168, rfl⟩, ho⟩
/-- a node with three fields -/
theorem mm_mk (hX : mm_X B h pg S0) (hh : mm_h B h pg S0 N s k n mn ma ml S) (hmn : mn + 1 ≤ 1000) {κ a b e : Int32} : mm_h B h pg S0 N s k n (mn + 1) ma ml (wd_i (wd_i (wd_i (wd_i (wd_i S 135 66 (Int32.ofNat (mn + 1))) 143 (3004 + 6002 * B + mn) κ) 144 (3004 + 6002 * B + mn) a) 145 (3004 + 6002 * B + mn) b) 146 (3004 + 6002 * B + mn) e) ∧ of_f (fun a b => (a = 135 ∧ b = 66) ∨ (143 ≤ a ∧ a ≤ 146 ∧ b = 3004 + 6002 * B + mn)) S (wd_i (wd_i (wd_i (wd_i (wd_i S 135 66 (Int32.ofNat (mn + 1))) 143 (3004 + 6002 * B + mn) κ) 144 (3004 + 6002 * B + mn) a) 145 (3004 + 6002 * B + mn) b) 146 (3004 + 6002 * B + mn) e) ∧ (wd_i (wd_i (wd_i (wd_i (wd_i S 135 66 (Int32.ofNat (mn + 1))) 143 (3004 + 6002 * B + mn) κ) 144 (3004 + 6002 * B + mn) a) 145 (3004 + 6002 * B + mn) b) 146 (3004 + 6002 * B + mn) e).1 143 (3004 + 6002 * B + mn) = κ ∧ (wd_i (wd_i (wd_i (wd_i (wd_i S 135 66 (Int32.ofNat (mn + 1))) 143 (3004 + 6002 * B + mn) κ) 144 (3004 + 6002 * B + mn) a) 145 (3004 + 6002 * B + mn) b) 146 (3004 + 6002 * B + mn) e).1 144 (3004 + 6002 * B + mn) = a ∧ (wd_i (wd_i (wd_i (wd_i (wd_i S 135 66 (Int32.ofNat (mn + 1))) 143 (3004 + 6002 * B + mn) κ) 144 (3004 + 6002 * B + mn) a) 145 (3004 + 6002 * B + mn) b) 146 (3004 + 6002 * B + mn) e).1 145 (3004 + 6002 * B + mn) = b ∧ (wd_i (wd_i (wd_i (wd_i (wd_i S 135 66 (Int32.ofNat (mn + 1))) 143 (3004 + 6002 * B + mn) κ) 144 (3004 + 6002 * B + mn) a) 145 (3004 + 6002 * B + mn) b) 146 (3004 + 6002 * B + mn) e).1 146 (3004 + 6002 * B + mn) = e := by
  have hB := hX.1
  generalize hS1 : wd_i (wd_i (wd_i (wd_i (wd_i S 135 66 (Int32.ofNat (mn + 1))) 143 (3004 + 6002 * B + mn) κ) 144 (3004 + 6002 * B + mn) a) 145 (3004 + 6002 * B + mn) b) 146 (3004 + 6002 * B + mn) e = S1
  have o : of_f (fun a b => (a = 135 ∧ b = 66) ∨ (143 ≤ a ∧ a ≤ 146 ∧ b = 3004 + 6002 * B + mn)) S S1 := by
    rw [← hS1]
    exact of_i (by omega) (of_i (by omega) (of_i (by omega) (of_i (by omega) (of_i (by omega) of_refl))))
  obtain ⟨a1, a2, a3, a4, a5, a6, a7, a8, a9, a10, a11, a12, a13⟩ := id hh
  refine ⟨mm_hw (k0 := 0) (n0 := 0) (mn0 := 0) (ma0 := 0) hh (of_mono (fun a b z => by unfold mm_w; omega) o) ?_ (by rw [o.1 135 67 (by omega)]; exact a3) (by rw [o.1 135 70 (by omega)]; exact a6) (by rw [o.1 135 76 (by omega)]; exact a9) (by rw [o.1 135 79 (by omega)]; exact a10) hmn a12, o, ?_, ?_, ?_, ?_⟩
  · rw [← hS1, fr_ne (by omega), fr_ne (by omega), fr_ne (by omega), fr_ne (by omega), fr_eq]
  · rw [← hS1, fr_ne (by omega), fr_ne (by omega), fr_ne (by omega), fr_eq]
  · rw [← hS1, fr_ne (by omega), fr_ne (by omega), fr_eq]
  · rw [← hS1, fr_ne (by omega), fr_eq]
  · rw [← hS1, fr_eq]
theorem mm_nw (hX : mm_X B h pg S0) (hmn : mn ≤ 1000) (ho : of_f (fun a b => (a = 135 ∧ b = 66) ∨ (143 ≤ a ∧ a ≤ 146 ∧ b = 3004 + 6002 * B + mn)) S S') {k0 n0 mn0 ma0 : Nat} (h0 : mn0 ≤ mn) : of_f (mm_F B k0 n0 mn0 ma0) S S' := of_mono (fun a b z => mm_w_F a b (by unfold mm_w; omega)) ho
theorem mm_cfg (hX : mm_X B h pg S0) (hh : mm_h B h pg S0 N s k n mn ma ml S) (hmn : mn + 1 ≤ 1000) {κ : Int32} : fn_Mo_fresh κ S = some (Int32.ofNat (3004 + 6002 * B + mn), wd_i (wd_i S 135 66 (Int32.ofNat (mn + 1))) 143 (3004 + 6002 * B + mn) κ) := mm_fresh hX.1 (mm_64 hX hh.1) hh.2.1 (by omega)
/-- SIGNED -/
theorem mm_sgn (hX : mm_X B h pg S0) (hh : mm_h B h pg S0 N s (k + 1) (n + 2) mn1 ma1 ml1 S) (hk : k < 4000) (hn : n + 2 ≤ 4000) (h165 : S.1 165 k = 2) (h166 : S.1 166 k = Int32.ofNat y) (hy : y < 3004) {kd : Int32} (hkd : kd = 6 ∨ kd = 7 ∨ kd = 8 ∨ kd = 9 ∨ kd = 10) (h146 : S.1 146 y = lx_cv kd) (hr : 1 ≤ r) (r1 : mm_r B mn1 ma1 r n R1 S) (r2 : mm_r B mn1 ma1 r (n + 1) R2 S) (n1 : mk_nn R1) (n2 : mk_nn R2) (hmn : mn1 = mn + mm_nz R1 + mm_nz R2) (hma : ma1 ≤ mm_nz R1 + mm_nz R2 + ma) (hma0 : ma ≤ ma1) (hml : ml1 = ml + R1.2.2 + R2.2.2) (hb : mn + 1 + R1.2.1 + R2.2.1 ≤ 1000) (hc : c + 1 ≤ 3 * s.2.1) : mm_O B h pg S0 (r + 1) k n mn ma ml c (if tr_k R1.1 = 1 ∧ tr_k R2.1 = 1 then .ok (mk_n (ev_sg kd (tr_v R1.1) (tr_v R2.1)), N, s) else .ok ((tr_2 kd 0 0 R1.1 R2.1, 1 + R1.2.1 + R2.2.1, R1.2.2 + R2.2.2), N, s)) S := by
  have hB := hX.1
  have z1 := mm_nzi n1
  have z2 := mm_nzi n2
  have i1 := mm_i1 R1
  have i2 := mm_i1 R2
  have h1 := mm_pop_h hh
  have h2 : mm_h B h pg S0 N s k n mn1 ma1 ml1 (wd_i (wd_i S 135 76 (Int32.ofNat k)) 135 79 (Int32.ofNat n)) := mm_h_79 h1
  have e79 : (wd_i S 135 76 (Int32.ofNat k)).1 135 79 - 2 = Int32.ofNat n := by
    rw [h1.2.2.2.2.2.2.2.2.2.1]
    exact im_sb n 2
  have o2 : ∀ k0 n0, of_f (mm_F B k0 n0 mn1 ma1) S (wd_i (wd_i S 135 76 (Int32.ofNat k)) 135 79 (Int32.ofNat n)) := fun k0 n0 => of_i (Or.inl ⟨rfl, by omega⟩) (of_i (Or.inl ⟨rfl, by omega⟩) of_refl)
  have r1' := mm_r_o (o2 0 (n + 2)) (show n < n + 2 by omega) (Nat.le_refl _) (Nat.le_refl _) r1
  have r2' := mm_r_o (o2 0 (n + 2)) (show n + 1 < n + 2 by omega) (Nat.le_refl _) (Nat.le_refl _) r2
  have y146 : (wd_i (wd_i S 135 76 (Int32.ofNat k)) 135 79 (Int32.ofNat n)).1 146 y = lx_cv kd := by rw [fr_ne (by omega), fr_ne (by omega)]; exact h146
  have q79 : (wd_i (wd_i S 135 76 (Int32.ofNat k)) 135 79 (Int32.ofNat n)).1 135 79 = Int32.ofNat n := fr_eq
  have ep : ∀ S', fn_Mo_onMaking 2 (Int32.ofNat y) (wd_i S 135 76 (Int32.ofNat k)) = some S' → mm_go 1 S S' := fun S' q => mm_pop hh hk (by rw [h165, h166]; exact q)
  have ef : fn_Mo_onMaking 2 (Int32.ofNat y) (wd_i S 135 76 (Int32.ofNat k)) = if (wd_i (wd_i S 135 76 (Int32.ofNat k)) 135 79 (Int32.ofNat n)).1 167 n = 0 then fn_Mo_onMaking_121 (Int32.ofNat y) (wd_i (wd_i S 135 76 (Int32.ofNat k)) 135 79 (Int32.ofNat n)) else if (wd_i (wd_i S 135 76 (Int32.ofNat k)) 135 79 (Int32.ofNat n)).1 167 (n + 1) = 0 then fn_Mo_onMaking_121 (Int32.ofNat y) (wd_i (wd_i S 135 76 (Int32.ofNat k)) 135 79 (Int32.ofNat n)) else fn_Mo_gives 1 (ev_sg kd ((wd_i (wd_i S 135 76 (Int32.ofNat k)) 135 79 (Int32.ofNat n)).1 168 n) ((wd_i (wd_i S 135 76 (Int32.ofNat k)) 135 79 (Int32.ofNat n)).1 168 (n + 1))) (wd_i (wd_i S 135 76 (Int32.ofNat k)) 135 79 (Int32.ofNat n)) := by
    unfold fn_Mo_onMaking
    rw [if_neg (show ¬(2 : Int32) = 1 by decide), if_pos rfl]
    unfold fn_Mo_onMaking_566
    simp only [wd_b]
    rw [e79, q79, if_neg (ms_in (show n < 4000 by omega) (by decide)), im_s, if_neg (ms_in (show n + 1 < 4000 by omega) (by decide)), im_t (show n < 2147483648 by omega), im_t (show n + 1 < 2147483648 by omega), if_neg (ms_in (show y < 15010 by omega) (by decide)), if_neg (ms_iy (show n < 4000 by omega) (by decide)), if_neg (ms_iy (show n + 1 < 4000 by omega) (by decide)), im_t (show y < 2147483648 by omega), y146, mo_appl hkd, wd_c_s, wd_d_id]
  generalize wd_i (wd_i S 135 76 (Int32.ofNat k)) 135 79 (Int32.ofNat n) = S2 at *
  have hno : ¬(tr_k R1.1 = 1 ∧ tr_k R2.1 = 1) → fn_Mo_onMaking 2 (Int32.ofNat y) (wd_i S 135 76 (Int32.ofNat k)) = fn_Mo_onMaking_121 (Int32.ofNat y) S2 → mm_O B h pg S0 (r + 1) k n mn ma ml c (.ok ((tr_2 kd 0 0 R1.1 R2.1, 1 + R1.2.1 + R2.2.1, R1.2.2 + R2.2.2), N, s)) S := fun hno e121 => by
    obtain ⟨x1, S3, f3, h3, t3, o3⟩ := mm_node hX h2 (show n < 4000 by omega) r1' hr (by omega)
    have h3 : mm_h B h pg S0 N s k n (mn1 + mm_i R1) ma1 ml1 S3 := h3
    have t3 : mm_t B (mn1 + mm_i R1) ma1 r x1 R1.1 S3 := t3
    have r2'' : mm_r B (mn1 + mm_i R1) ma1 r (n + 1) R2 S3 := mm_r_o (k0 := 0) (n0 := n + 2) (mm_nw hX (by omega) o3 (Nat.le_refl _)) (show n + 1 < n + 2 by omega) (Nat.le_add_right _ _) (Nat.le_refl _) r2'
    obtain ⟨x2, S4, f4, h4, t4, o4⟩ := mm_node hX h3 (show n + 1 < 4000 by omega) r2'' hr (by omega)
    have h4 : mm_h B h pg S0 N s k n (mn1 + mm_i R1 + mm_i R2) ma1 ml1 S4 := h4
    have t4 : mm_t B (mn1 + mm_i R1 + mm_i R2) ma1 r x2 R2.1 S4 := t4
    obtain ⟨h5, o5, g3, g4, g5, g6⟩ := mm_mk hX h4 (by omega) (κ := 1) (a := Int32.ofNat x1) (b := Int32.ofNat x2) (e := lx_cv kd)
    have y146' : S4.1 146 y = lx_cv kd := by rw [o4.1 146 y (by omega), o3.1 146 y (by omega)]; exact y146
    have e79' : S3.1 135 79 = Int32.ofNat n := h3.2.2.2.2.2.2.2.2.2.1
    have e5 : fn_Mo_onMaking_121 (Int32.ofNat y) S2 = fn_Mo_gives 0 (Int32.ofNat (3004 + 6002 * B + (mn1 + mm_i R1 + mm_i R2))) (wd_i (wd_i (wd_i (wd_i (wd_i S4 135 66 (Int32.ofNat (mn1 + mm_i R1 + mm_i R2 + 1))) 143 (3004 + 6002 * B + (mn1 + mm_i R1 + mm_i R2)) 1) 144 (3004 + 6002 * B + (mn1 + mm_i R1 + mm_i R2)) (Int32.ofNat x1)) 145 (3004 + 6002 * B + (mn1 + mm_i R1 + mm_i R2)) (Int32.ofNat x2)) 146 (3004 + 6002 * B + (mn1 + mm_i R1 + mm_i R2)) (lx_cv kd)) := by
      unfold fn_Mo_onMaking_121 fn_Mo_onMaking_566
      simp only [wd_b]
      rw [q79, f3, wd_c_s, e79', im_s, f4, wd_c_s, mm_cfg hX h4 (by omega), wd_c_s, if_neg (ms_in (show 3004 + 6002 * B + (mn1 + mm_i R1 + mm_i R2) < 15010 by omega) (by decide)), if_neg (ms_in (show 3004 + 6002 * B + (mn1 + mm_i R1 + mm_i R2) < 15010 by omega) (by decide)), if_neg (ms_in (show y < 15010 by omega) (by decide)), if_neg (ms_in (show 3004 + 6002 * B + (mn1 + mm_i R1 + mm_i R2) < 15010 by omega) (by decide)), im_t (show 3004 + 6002 * B + (mn1 + mm_i R1 + mm_i R2) < 2147483648 by omega), im_t (show y < 2147483648 by omega), fr_ne (show ¬(146 = 145 ∧ _) by omega), fr_ne (show ¬(146 = 144 ∧ _) by omega), fr_ne (show ¬(146 = 143 ∧ _) by omega), fr_ne (show ¬(146 = 135 ∧ _) by omega), y146', wd_d_id]
    generalize wd_i (wd_i (wd_i (wd_i (wd_i S4 135 66 (Int32.ofNat (mn1 + mm_i R1 + mm_i R2 + 1))) 143 (3004 + 6002 * B + (mn1 + mm_i R1 + mm_i R2)) 1) 144 (3004 + 6002 * B + (mn1 + mm_i R1 + mm_i R2)) (Int32.ofNat x1)) 145 (3004 + 6002 * B + (mn1 + mm_i R1 + mm_i R2)) (Int32.ofNat x2)) 146 (3004 + 6002 * B + (mn1 + mm_i R1 + mm_i R2)) (lx_cv kd) = S5 at *
    have w4 := mm_nw hX (by omega) o4 (k0 := k) (n0 := n) (mn0 := mn1 + mm_i R1) (ma0 := ma1) (by omega)
    have w5 := mm_nw hX (by omega) o5 (k0 := k) (n0 := n) (mn0 := mn1 + mm_i R1 + mm_i R2) (ma0 := ma1) (by omega)
    have t3' := mm_t_o w5 (mn' := mn1 + mm_i R1 + mm_i R2 + 1) (by omega) (Nat.le_refl _) (mm_t_o w4 (mn' := mn1 + mm_i R1 + mm_i R2) (by omega) (Nat.le_refl _) t3)
    have t4' := mm_t_o w5 (mn' := mn1 + mm_i R1 + mm_i R2 + 1) (by omega) (Nat.le_refl _) t4
    have og := mg_o (n := n) (x := 0) (v := Int32.ofNat (3004 + 6002 * B + (mn1 + mm_i R1 + mm_i R2))) (S := S5)
    have w6 : of_f (mm_F B k n (mn1 + mm_i R1 + mm_i R2 + 1) ma1) S5 (mg_p n 0 (Int32.ofNat (3004 + 6002 * B + (mn1 + mm_i R1 + mm_i R2))) S5) := of_mono (fun a b z => mm_w_F a b (by unfold mm_w; omega)) og
    refine mm_close (z := 3004 + 6002 * B + (mn1 + mm_i R1 + mm_i R2)) (mm_h_g h5) (show ¬kd = 1 by rcases hkd with z | z | z | z | z <;> rw [z] <;> decide) ?_ ?_ hma0 ?_ mg_167 mg_168 (mm_t_o w6 (Nat.le_refl _) (Nat.le_refl _) ⟨by omega, by omega, Or.inr (Or.inr (Or.inr (Or.inr (Or.inr ⟨hkd, rfl, g3, g6, x1, x2, g4, g5, t3', t4'⟩))))⟩) ?_ (ep _ (by rw [e121, e5]; exact mm_gives (h5.2.2.2.2.2.2.2.2.2.1) (by omega) (Or.inl rfl))) hc
    · show _ = mn + (1 + R1.2.1 + R2.2.1)
      omega
    · show _ ≤ 1 + R1.2.1 + R2.2.1 + ma
      omega
    · show ml1 = ml + (R1.2.2 + R2.2.2)
      omega
    · exact of_trans (of_mono (mm_F_le (Nat.le_refl _) (Nat.le_refl _) (by omega) hma0) (o2 k n)) (of_trans (mm_nw hX (by omega) o3 (by omega)) (of_trans (mm_nw hX (by omega) o4 (by omega)) (of_trans (mm_nw hX (by omega) o5 (by omega)) (of_mono (mm_F_le (Nat.le_refl _) (Nat.le_refl _) (by omega) hma0) w6))))
  by_cases e1 : tr_k R1.1 = 1
  · by_cases e2 : tr_k R2.1 = 1
    · rw [if_pos ⟨e1, e2⟩]
      rcases r1' with ⟨-, p1, p2, -⟩ | ⟨p1, -⟩
      · rcases r2' with ⟨-, q1, q2, -⟩ | ⟨q1, -⟩
        · rw [p1, q1, if_neg (show ¬(1 : Int32) = 0 by decide), if_neg (show ¬(1 : Int32) = 0 by decide), p2, q2, mm_gives q79 (by omega) (Or.inr rfl)] at ef
          have k1 : mm_nz R1 = 0 := if_pos e1
          have k2 : mm_nz R2 = 0 := if_pos e2
          have l1 : R1.2.2 = 0 := by rw [n1 e1]
          have l2 : R2.2.2 = 0 := by rw [n2 e2]
          have em : mn1 = mn := by omega
          have ea : ma1 = ma := by omega
          have el : ml1 = ml := by omega
          subst em ea el
          exact mm_close_n (mm_h_g h2) mg_167 mg_168 (of_trans (o2 k n) (of_mono (fun a b z => mm_w_F a b (by unfold mm_w; omega)) mg_o)) (ep _ ef) hc
        · exact absurd e2 q1
      · exact absurd e1 p1
    · rw [if_neg (fun q => e2 q.2)]
      refine hno (fun q => e2 q.2) ?_
      rw [ef]
      rcases r2' with ⟨q1, -⟩ | ⟨-, q1, -⟩
      · exact absurd q1 e2
      · rw [q1, if_pos rfl, ite_self]
  · rw [if_neg (fun q => e1 q.1)]
    refine hno (fun q => e1 q.1) ?_
    rw [ef]
    rcases r1' with ⟨q1, -⟩ | ⟨-, q1, -⟩
    · exact absurd q1 e1
    · rw [q1, if_pos rfl]
end Mm4
