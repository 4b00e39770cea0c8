/-! The reference's maker: what becomes of any EXPRESSION, whole. -/
section Mmc
variable {B h : Nat} {pg : pg_T} {S0 S S' S1 S2 S3 S9 : wd_S} {N N' : mk_N} {s s' : mk_S} {k n mn ma ml k' n' mn' ma' ml' mn1 ma1 ml1 y z d r c p i f m a g K : Nat} {t : tr_T} {x v : Int32} {R : mk_R} {kn : Nat → Int32} {as : List mk_R}
/-- the arguments, one by one -/
theorem mm_args (hX : mm_X B h pg S0) (hS : mm_S B h pg S0 r) (hma : ma ≤ mn) (hk : k + 6 * (r + 1) ≤ 3900) (hn : n + 5 * (r + 1) ≤ 3900) (hy : y < 3004) (ha : tr_a t ≤ 4) (hf : tr_n t < pg.length) (hl : tr_a t = pg_n pg (tr_n t)) (h145 : S0.1 145 y = Int32.ofNat (tr_a t)) (h146 : S0.1 146 y = Int32.ofNat (48 * h + tr_n t)) (hta : ∀ j, j < tr_a t → ∃ z, S0.1 149 (g + j) = Int32.ofNat z ∧ mj_t S0 (48 * h) (1501 * h) (1501 * h + 1500) (1501 * h) (1501 * h + 1500) d z (tr_sub t j)) : ∀ (r' j : Nat) (l : List mk_R) (N : mk_N) (s : mk_S) (mn1 ma1 ml1 c : Nat) (S : wd_S), r' + j = tr_a t → l.length = j → mm_h B h pg S0 N s (k + 1 + r') (n + j) mn1 ma1 ml1 S → (∀ i, j ≤ i → i < tr_a t → S.1 165 (k + 1 + (tr_a t - 1 - i)) = 1 ∧ S.1 166 (k + 1 + (tr_a t - 1 - i)) = S0.1 149 (g + i)) → S.1 165 k = 7 → S.1 166 k = Int32.ofNat y → (∀ i, (hi : i < l.length) → mm_r B mn1 ma1 r (n + i) l[i] S) → (∀ R, R ∈ l → mk_nn R) → mn1 = mn + mm_nzs l → ma1 + l.length ≤ mm_nzs l + ma + mm_is l → ma ≤ ma1 → ml1 = ml + mk_lt l → mn + 1 + mk_sz l ≤ s.2.1 → (1 ≤ r ∨ j = 0) → c + 2 ≤ 3 * s.2.1 → mm_O B h pg S0 (r + 1) k n mn ma ml c (mk_b (mk_args (mk pg r) t r' j N s) fun q => mk_b (mk_call (pg_P pg) (tr_n t) (l ++ q.1) q.2.2) fun w => .ok (w.1, q.2.1, w.2)) S := by
  intro r'
  induction r' with
  | zero =>
    intro j l N s mn1 ma1 ml1 c S hj hlj hh htk h165 h166 hres hnn hmn hmal hma0 hml hb hr hc
    have hj : j = tr_a t := by omega
    have h13 := hh.2.2.2.2.2.2.2.2.2.2.2.2.1
    show mm_O B h pg S0 (r + 1) k n mn ma ml c (mk_b (mk_call (pg_P pg) (tr_n t) (l ++ []) s) fun w => .ok (w.1, N, w.2)) S
    rw [List.append_nil]
    exact mm_called (f := tr_n t) (y := y) hX (by rw [hlj]; exact hh) (by omega) (by omega) h165 h166 hy (by omega) (by rw [(mm_n hX hh.1 hy).2.2.1, h145, hlj, hj]) hf (by rw [(mm_n hX hh.1 hy).2.2.2]; exact h146) (by omega) (by omega) hres hnn hmn (by omega) hma0 hml (by omega) hma (by omega)
  | succ r' ih =>
    intro j l N s mn1 ma1 ml1 c S hj hlj hh htk h165 h166 hres hnn hmn hmal hma0 hml hb hr hc
    show mm_O B h pg S0 (r + 1) k n mn ma ml c (mk_b (mk_b (mk pg r N s (tr_sub t j)) fun q => mk_b (mk_args (mk pg r) t r' (j + 1) q.2.1 q.2.2) fun w => .ok (q.1 :: w.1, w.2)) _) S
    rw [mk_b_b]
    obtain ⟨z, e1, e2⟩ := hta j (by omega)
    obtain ⟨t1, t2⟩ := htk j (Nat.le_refl _) (by omega)
    rw [show k + 1 + (tr_a t - 1 - j) = k + 1 + r' by omega] at t1 t2
    have zs := mm_szs l hnn
    have zi := mm_is_le l
    refine mm_bind 2 (hS N s (k + 1 + r') (n + j) mn1 ma1 ml1 z _ d S hh t1 (by rw [t2]; exact e1) (by omega) (by omega) (by omega) (by omega) e2) (by omega) (by omega) (by omega) (by omega) hma0 (fun q S1 hq G => ?_)
    obtain ⟨ma2, h2, i2, j2, r2, o2⟩ := G
    obtain ⟨p1, p2, p3, p4⟩ := mk_gs _ _ _ _ _ hq
    have nq := mm_nzi p4
    have ni := mm_i1 q.1
    rw [mk_b_b]
    have ez : mm_nzs (l ++ [q.1]) = mm_nzs l + mm_nz q.1 := mm_nzs_a l [q.1]
    have ei : mm_is (l ++ [q.1]) = mm_is l + mm_i q.1 := mm_is_a l [q.1]
    have el : mk_lt (l ++ [q.1]) = mk_lt l + q.1.2.2 := mk_lt_a l [q.1]
    have es : mk_sz (l ++ [q.1]) = mk_sz l + q.1.2.1 := mk_sz_a l [q.1]
    have ell : (l ++ [q.1]).length = l.length + 1 := by rw [List.length_append]; rfl
    have hi2 : ma2 + 1 ≤ mm_nz q.1 + ma1 + mm_i q.1 := by
      unfold mm_i mm_nz
      unfold mm_nz at i2
      split at i2
      · next hq1 => rw [if_pos hq1, if_pos hq1]; omega
      · next hq1 => rw [if_neg hq1, if_neg hq1]; omega
    have fin := ih (j + 1) (l ++ [q.1]) q.2.1 q.2.2 (mn1 + mm_nz q.1) ma2 (ml1 + q.1.2.2) (3 * q.2.2.2.1 - 2) S1 (by omega) (by omega) h2 (fun i q1 q2 => by
      obtain ⟨u1, u2⟩ := htk i (by omega) q2
      exact ⟨by rw [o2.1 165 _ (by unfold mm_F; omega)]; exact u1, by rw [o2.1 166 _ (by unfold mm_F; omega)]; exact u2⟩) (by rw [o2.1 165 k (by unfold mm_F; omega)]; exact h165) (by rw [o2.1 166 k (by unfold mm_F; omega)]; exact h166) (fun i hi => by
      rw [ell] at hi
      by_cases e : i = l.length
      · subst e
        rw [List.getElem_append_right (Nat.le_refl _)]
        simp only [Nat.sub_self, List.getElem_cons_zero]
        rw [hlj]
        exact r2
      · rw [List.getElem_append_left (show i < l.length by omega)]
        exact mm_r_o o2 (by omega) (Nat.le_add_right _ _) j2 (hres i (by omega))) (fun R hR => by
      rcases List.mem_append.mp hR with e | e
      · exact hnn R e
      · rw [List.mem_singleton.mp e]; exact p4) (by omega) (by omega) (by omega) (by omega) (by omega) (Or.inl (mk_r1 hq)) (by omega)
    have el : ∀ l' : List mk_R, l ++ [q.1] ++ l' = l ++ q.1 :: l' := fun l' => by rw [List.append_assoc]; rfl
    simp only [el] at fin
    exact fin
theorem mm_call (hX : mm_X B h pg S0) (hS : mm_S B h pg S0 r) (hE : mm_E B h pg S0 N s k n mn ma ml y S S2) (hmn : mn ≤ s.2.1) (hma : ma ≤ mn) (hk : k + 6 * (r + 1) ≤ 3900) (hn : n + 5 * (r + 1) ≤ 3900) (hy : y < 3004) (h143 : S0.1 143 y = 8) (ha : tr_a t ≤ 4) (hf : tr_n t < pg.length) (hl : tr_a t = pg_n pg (tr_n t)) (h144 : S0.1 144 y = Int32.ofNat g) (hg : g + tr_a t ≤ 3004) (h145 : S0.1 145 y = Int32.ofNat (tr_a t)) (h146 : S0.1 146 y = Int32.ofNat (48 * h + tr_n t)) (hta : ∀ j, j < tr_a t → ∃ z, S0.1 149 (g + j) = Int32.ofNat z ∧ mj_t S0 (48 * h) (1501 * h) (1501 * h + 1500) (1501 * h) (1501 * h + 1500) d z (tr_sub t j)) : mm_O B h pg S0 (r + 1) k n mn ma ml (3 * s.2.1) (mk_ca pg (mk pg r) N (s.1, s.2.1 + 1, s.2.2) t) S := by
  obtain ⟨h2, o2, hev⟩ := hE
  obtain ⟨e2, g1, g2, g3⟩ := hev _ rfl
  have hS1 : of_f (mm_F B 0 0 0 0) S0 (wd_i S 135 76 (Int32.ofNat k)) := of_trans h2.1 (by
    rw [e2]
    exact ⟨fun a b q => (fr_ne (fun w => q (Or.inl ⟨w.1, by omega⟩))).symm, fun a b q => rfl, rfl⟩)
  obtain ⟨n3, n4, n5, n6⟩ := mm_n hX hS1 hy
  obtain ⟨S3, f3, q1, q2, q3, q4, o3⟩ := mm_ev8 (y := y) (k := k) (S := wd_i S 135 76 (Int32.ofNat k)) (g := g) (a := tr_a t) (by omega) g1 (by rw [n3]; exact h143) g2 (by omega) ha (by omega) (by rw [n4]; exact h144) (by rw [n5]; exact h145)
  rw [← e2] at o3
  have h3 : mm_h B h pg S0 N (s.1, s.2.1 + 1, s.2.2) (k + 1 + tr_a t) n mn ma ml S3 := by
    obtain ⟨a1, a2, a3, a4, a5, a6, a7, a8, a9, a10, a11, a12, a13⟩ := id h2
    exact mm_hw (k0 := 0) (n0 := 0) (mn0 := 0) (ma0 := 0) h2 (of_mono (fun a b z => by unfold mm_w; omega) o3) (by rw [o3.1 135 66 (by omega)]; exact a2) (by rw [o3.1 135 67 (by omega)]; exact a3) (by rw [o3.1 135 70 (by omega)]; exact a6) q1 (by rw [o3.1 135 79 (by omega)]; exact a10) a11 a12
  refine mm_step (g3 _ f3) (of_trans (mm_Ew o2 k n mn ma) (of_mono (fun a b z => mm_w_F a b (by unfold mm_w; omega)) o3)) ?_
  unfold mk_ca
  exact mm_args (ma := ma) (mn := mn) (ml := ml) hX hS hma hk hn hy ha hf hl h145 h146 hta (tr_a t) 0 [] N (s.1, s.2.1 + 1, s.2.2) mn ma ml _ S3 rfl rfl h3 (fun i _ hi => ⟨(q4 i hi).1, by rw [(q4 i hi).2]; exact mm_a9 hX hS1 (by omega)⟩) q2 q3 (fun i hi => absurd hi (Nat.not_lt_zero _)) (fun R hR => absurd hR List.not_mem_nil) rfl (by show ma + 0 ≤ 0 + ma + 0; omega) (Nat.le_refl _) rfl (by show mn + 1 + 0 ≤ s.2.1 + 1; omega) (Or.inr rfl) (by show 3 * s.2.1 + 1 + 2 ≤ 3 * (s.2.1 + 1); omega)
theorem mm_s (hX : mm_X B h pg S0) (hS : mm_S B h pg S0 r) : mm_S B h pg S0 (r + 1) := by
  intro N s k n mn ma ml y t d S hh h165 h166 hmn hma hk hn ht
  have h13 := hh.2.2.2.2.2.2.2.2.2.2.2.2.1
  have hh1 := hX.2.1
  show mm_O B h pg S0 (r + 1) k n mn ma ml (3 * s.2.1) (if 1000 ≤ s.2.1 then .error (some ()) else mk_in pg (mk pg r) N (s.1, s.2.1 + 1, s.2.2) t) S
  by_cases hg : 1000 ≤ s.2.1
  · rw [if_pos hg]
    have e0 : s.2.1 = 1000 := by omega
    have e71 : (wd_i S 135 76 (Int32.ofNat k)).1 135 71 = 1000 := by
      rw [fr_ne (by omega), hh.2.2.2.2.2.2.1, e0]
      rfl
    have ef : fn_Mo_onEv (Int32.ofNat y) (wd_i S 135 76 (Int32.ofNat k)) = some (wd_i (wd_i S 135 76 (Int32.ofNat k)) 135 73 1) := by
      unfold fn_Mo_onEv
      rw [if_pos e71]
      rfl
    exact ⟨1, _, mm_pop hh (by omega) (by rw [h165, h166, mm_mk1]; exact ef), by omega, by rw [fr_eq]; decide, of_i (Or.inl ⟨rfl, by omega⟩) (of_i (Or.inl ⟨rfl, by omega⟩) of_refl)⟩
  · rw [if_neg hg]
    obtain ⟨S2, hE⟩ := mm_beg hX hh (by omega) h165 h166 hg
    unfold mk_in
    by_cases ok : ev_ok pg.length t
    · rw [if_pos ok]
      cases d with
      | zero => exact absurd ht id
      | succ d =>
        obtain ⟨y1, y2, hm1⟩ := ht
        have hy : y < 3004 := by omega
        rcases hm1 with ⟨k1, k2, k3, k4⟩ | ⟨k1, k2, k3, k4, -⟩ | ⟨k1, k2, k3, k4, -, z0, z1, p1, p2, p3, p4⟩ | ⟨k1, k2, k3, z0, z1, z2, p1, p2, p3, p4, p5, p6⟩ | ⟨k1, k3, k4, k5, ⟨g, k6, k7⟩, g2, p1, p2, p3, p4⟩ | ⟨k1, k2, k3, k4, z0, z1, p1, p2, p3, p4⟩
        · rw [if_pos k1]
          obtain ⟨h2, o2, hev⟩ := hE
          obtain ⟨e2, g1, g2, g3⟩ := hev _ rfl
          have hS1 : of_f (mm_F B 0 0 0 0) S0 (wd_i S 135 76 (Int32.ofNat k)) := of_trans hh.1 (of_i (Or.inl ⟨rfl, by omega⟩) of_refl)
          obtain ⟨n3, n4, n5, n6⟩ := mm_n hX hS1 hy
          have ef := mm_ev5 (y := y) (S := wd_i S 135 76 (Int32.ofNat k)) (by omega) g1 (by rw [n3]; exact k3)
          rw [← e2, n4, k4, mm_gives h2.2.2.2.2.2.2.2.2.2.1 (by omega) (Or.inr rfl)] at ef
          exact mm_close_n (s := (s.1, s.2.1 + 1, s.2.2)) (mm_h_g h2) mg_167 mg_168 (of_trans (mm_Ew o2 k n mn ma) (of_mono (fun a b z => mm_w_F a b (by unfold mm_w; omega)) mg_o)) (g3 _ ef) (by show 3 * s.2.1 + 1 ≤ 3 * (s.2.1 + 1); omega)
        · have hn1 : tr_v t = Int32.ofNat (tr_n t) ∧ tr_n t < 16 := by
            rcases ok with q | ⟨-, q1, q2⟩ | ⟨q, -⟩ | ⟨q, -⟩ | ⟨q, -⟩ | ⟨q | q | q | q | q, -⟩
            · rw [k1] at q; exact absurd q (by decide)
            · exact ⟨q1, q2⟩
            all_goals (rw [k1] at q; exact absurd q (by decide))
          rw [if_neg (by rw [k1]; decide), if_pos k1]
          cases hN : N (tr_n t) with
          | none => trivial
          | some q =>
            obtain ⟨h2, o2, hev⟩ := hE
            obtain ⟨e2, g1, g2, g3⟩ := hev _ rfl
            have hS1 : of_f (mm_F B 0 0 0 0) S0 (wd_i S 135 76 (Int32.ofNat k)) := of_trans hh.1 (of_i (Or.inl ⟨rfl, by omega⟩) of_refl)
            obtain ⟨n3, n4, n5, n6⟩ := mm_n hX hS1 hy
            obtain ⟨b1, b2, b3, b4⟩ := hh.2.2.2.2.2.2.2.2.2.2.2.2.2.1 (tr_n t) q hN
            have ef := mm_ev7 (y := y) (S := wd_i S 135 76 (Int32.ofNat k)) (by omega) g1 (by rw [n3]; exact k3) hn1.2 (by rw [n4, k4, hn1.1])
            have c1 : (wd_i S 135 76 (Int32.ofNat k)).1 169 (tr_n t) = (if q.1 = true then 1 else 0) := by rw [fr_ne (by omega)]; exact b2
            have c2 : (wd_i S 135 76 (Int32.ofNat k)).1 170 (tr_n t) = q.2 := by rw [fr_ne (by omega)]; exact b3
            rw [← e2, c1, c2] at ef
            dsimp only
            unfold mk_name
            cases hb : q.1 with
            | true =>
              rw [hb, if_pos (rfl : true = true), if_neg (show ¬(1 : Int32) = 0 by decide), mm_gives h2.2.2.2.2.2.2.2.2.2.1 (by omega) (Or.inr rfl)] at ef
              rw [if_pos (rfl : true = true)]
              exact mm_close_n (s := (s.1, s.2.1 + 1, s.2.2)) (mm_h_g h2) mg_167 mg_168 (of_trans (mm_Ew o2 k n mn ma) (of_mono (fun a b z => mm_w_F a b (by unfold mm_w; omega)) mg_o)) (g3 _ ef) (by show 3 * s.2.1 + 1 ≤ 3 * (s.2.1 + 1); omega)
            | false =>
              obtain ⟨i, i1, i2⟩ := b4 hb
              have hB := hX.1
              have y144 : S2.1 144 y = Int32.ofNat (tr_n t) := by rw [(mm_n hX h2.1 hy).2.1, k4, hn1.1]
              have y170 : S2.1 170 (tr_n t) = q.2 := by rw [o2.1 170 _ (by omega)]; exact b3
              rw [hb, if_neg (show ¬false = true by decide), if_pos rfl, mm_cfg hX h2 (by omega), wd_c_s, if_neg (ms_in (show y < 15010 by omega) (by decide)), im_t (show y < 2147483648 by omega), fr_ne (show ¬(144 = 143 ∧ _) by omega), fr_ne (show ¬(144 = 135 ∧ _) by omega), y144, if_neg (ms_in hn1.2 (by decide)), if_neg (ms_in (show 3004 + 6002 * B + mn < 15010 by omega) (by decide)), im_t (show 3004 + 6002 * B + mn < 2147483648 by omega), im_t (show tr_n t < 2147483648 by omega), fr_ne (show ¬(170 = 143 ∧ _) by omega), fr_ne (show ¬(170 = 135 ∧ _) by omega), y170] at ef
              generalize hS3 : wd_i (wd_i (wd_i S2 135 66 (Int32.ofNat (mn + 1))) 143 (3004 + 6002 * B + mn) 7) 144 (3004 + 6002 * B + mn) q.2 = S3 at *
              have o3 : of_f (fun a b => (a = 135 ∧ b = 66) ∨ (143 ≤ a ∧ a ≤ 146 ∧ b = 3004 + 6002 * B + mn)) S2 S3 := by
                rw [← hS3]
                exact of_i (by omega) (of_i (by omega) (of_i (by omega) of_refl))
              have h3 : mm_h B h pg S0 N (s.1, s.2.1 + 1, s.2.2) k n (mn + 1) ma ml S3 := by
                obtain ⟨a1, a2, a3, a4, a5, a6, a7, a8, a9, a10, a11, a12, a13⟩ := id h2
                exact mm_hw (k0 := 0) (n0 := 0) (mn0 := 0) (ma0 := 0) h2 (of_mono (fun a b z => by unfold mm_w; omega) o3) (by rw [← hS3, fr_ne (by omega), fr_ne (by omega), fr_eq]) (by rw [o3.1 135 67 (by omega)]; exact a3) (by rw [o3.1 135 70 (by omega)]; exact a6) (by rw [o3.1 135 76 (by omega)]; exact a9) (by rw [o3.1 135 79 (by omega)]; exact a10) (by omega) a12
              have c3 : S3.1 143 (3004 + 6002 * B + mn) = 7 := by rw [← hS3, fr_ne (by omega), fr_eq]
              have c4 : S3.1 144 (3004 + 6002 * B + mn) = q.2 := by rw [← hS3, fr_eq]
              rw [mm_gives h3.2.2.2.2.2.2.2.2.2.1 (by omega) (Or.inl rfl)] at ef
              rw [if_neg (show ¬false = true by decide)]
              have w6 : of_f (mm_F B k n (mn + 1) ma) S3 (mg_p n 0 (Int32.ofNat (3004 + 6002 * B + mn)) S3) := of_mono (fun a b z => mm_w_F a b (by unfold mm_w; omega)) mg_o
              exact mm_close (R := (tr_l 2 q.2 0, 1, 0)) (z := 3004 + 6002 * B + mn) (s := (s.1, s.2.1 + 1, s.2.2)) (mm_h_g h3) (show ¬(2 : Int32) = 1 by decide) rfl (by show ma + 1 ≤ 1 + ma; omega) (Nat.le_refl _) rfl mg_167 mg_168 (mm_t_o w6 (Nat.le_refl _) (Nat.le_refl _) ⟨by omega, by omega, Or.inr (Or.inl ⟨rfl, rfl, c3, c4, i, i1, i2⟩)⟩) (of_trans (mm_Ew o2 k n mn ma) (of_trans (mm_nw hX (by omega) o3 (Nat.le_refl _)) (of_mono (mm_F_le (Nat.le_refl _) (Nat.le_refl _) (Nat.le_succ _) (Nat.le_refl _)) w6))) (g3 _ ef) (by show 3 * s.2.1 + 1 ≤ 3 * (s.2.1 + 1); omega)
        · have hn1 : tr_v t = Int32.ofNat (tr_n t) ∧ tr_n t < 16 := by
            rcases ok with q | ⟨q, -⟩ | ⟨-, q1, q2, -⟩ | ⟨q, -⟩ | ⟨q, -⟩ | ⟨q | q | q | q | q, -⟩
            · rw [k1] at q; exact absurd q (by decide)
            · rw [k1] at q; exact absurd q (by decide)
            · exact ⟨q1, q2⟩
            all_goals (rw [k1] at q; exact absurd q (by decide))
          rw [if_neg (by rw [k1]; decide), if_neg (by rw [k1]; decide), if_pos k1]
          exact mm_let hX hS hE hmn hma hk hn hy k3 p1 p2 hn1.1 hn1.2 k4 p3 p4
        · rw [if_neg (by rw [k1]; decide), if_neg (by rw [k1]; decide), if_neg (by rw [k1]; decide), if_pos k1]
          exact mm_if hX hS hE hmn hma hk hn hy k3 p1 p2 p3 p4 p5 p6
        · rw [if_neg (by rw [k1]; decide), if_neg (by rw [k1]; decide), if_neg (by rw [k1]; decide), if_neg (by rw [k1]; decide), if_pos k1]
          have hn1 : tr_v t = Int32.ofNat (tr_n t) ∧ tr_n t < pg.length := by
            rcases ok with q | ⟨q, -⟩ | ⟨q, -⟩ | ⟨q, -⟩ | ⟨-, -, q1, q2⟩ | ⟨q | q | q | q | q, -⟩
            · rw [k1] at q; exact absurd q (by decide)
            · rw [k1] at q; exact absurd q (by decide)
            · rw [k1] at q; exact absurd q (by decide)
            · rw [k1] at q; exact absurd q (by decide)
            · exact ⟨q1, q2⟩
            all_goals (rw [k1] at q; exact absurd q (by decide))
          have e146 : S0.1 146 y = Int32.ofNat (48 * h + tr_n t) := by rw [k7, Int32.ofNat_add, ← k6, hn1.1, ← Int32.ofNat_add]
          by_cases hl : tr_a t = pg_n pg (tr_n t)
          · rw [if_pos hl]
            exact mm_call (g := g2) hX hS hE hmn hma hk hn hy k3 k5 hn1.2 hl p1 (by omega) k4 e146 p4
          · rw [if_neg hl]
            trivial
        · have nk : ∀ c : Int32, c = 1 ∨ c = 2 ∨ c = 3 ∨ c = 4 ∨ c = 5 → ¬tr_k t = c := fun c hc q => by
            rw [q] at k1
            rcases hc with z | z | z | z | z <;> rw [z] at k1 <;> exact absurd k1 (by decide)
          rw [if_neg (nk 1 (by decide)), if_neg (nk 2 (by decide)), if_neg (nk 3 (by decide)), if_neg (nk 4 (by decide)), if_neg (nk 5 (by decide))]
          exact mm_sign hX hS hE hmn hma hk hn hy k1 rfl k3 k4 p1 p2 p3 p4
    · rw [if_neg ok]
      trivial
theorem mm_all (hX : mm_X B h pg S0) : ∀ r, mm_S B h pg S0 r := by
  intro r
  induction r with
  | zero => intro N s k n mn ma ml y t d S _ _ _ _ _ _ _ _; trivial
  | succ r ih => exact mm_s hX ih
end Mmc
