/-! part b18 -/
section
/-! The reference's maker: calls. -/
theorem mm_alln {as : List mk_R} (h : ∀ i, i < as.length → mk_nb as i = true) : ∀ R, R ∈ as → tr_k R.1 = 1 := fun R hR => by
  obtain ⟨i, hi, e⟩ := List.getElem_of_mem hR
  have := h i hi
  unfold mk_nb mk_at at this
  rw [List.getD_eq_getElem?_getD, List.getElem?_eq_getElem hi, e] at this
  exact of_decide_eq_true this
theorem mm_all0 : ∀ as : List mk_R, (∀ R, R ∈ as → tr_k R.1 = 1) → (∀ R, R ∈ as → mk_nn R) → mm_nzs as = 0 ∧ mm_is as = as.length ∧ mk_lt as = 0 := by
  intro as
  induction as with
  | nil => intro _ _; exact ⟨rfl, rfl, rfl⟩
  | cons a l ih =>
    intro h1 h2
    obtain ⟨a1, a2, a3⟩ := ih (fun R hR => h1 R (List.mem_cons_of_mem _ hR)) (fun R hR => h2 R (List.mem_cons_of_mem _ hR))
    have e := h1 a List.mem_cons_self
    have k1 : mm_nz a = 0 := if_pos e
    have k2 : mm_i a = 1 := if_pos e
    have k3 : a.2.2 = 0 := by rw [h2 a List.mem_cons_self e]
    exact ⟨by show mm_nz a + mm_nzs l = 0; omega, by show mm_i a + mm_is l = l.length + 1; omega, by show a.2.2 + mk_lt l = 0; omega⟩
theorem mk_kp_lt : ∀ l : List mk_R, (∀ R, R ∈ l → mk_nn R) → mk_lt (mk_kp l) = mk_lt l := by
  intro l
  induction l with
  | nil => intro _; rfl
  | cons a l ih =>
    intro h
    have ih := ih (fun R hR => h R (List.mem_cons_of_mem _ hR))
    by_cases e : tr_k a.1 = 1
    · have ek : mk_kp (a :: l) = mk_kp l := List.filter_cons_of_neg (by rw [decide_eq_true_iff]; exact fun q => q e)
      have k3 : a.2.2 = 0 := by rw [h a List.mem_cons_self e]
      rw [ek, ih]
      show _ = a.2.2 + mk_lt l
      omega
    · have ek : mk_kp (a :: l) = a :: mk_kp l := List.filter_cons_of_pos (decide_eq_true e)
      rw [ek]
      show a.2.2 + mk_lt (mk_kp l) = a.2.2 + mk_lt l
      omega
section Mm9
variable {B h : Nat} {pg : pg_T} {S0 S S' S1 S2 S3 S9 : wd_S} {N N' : mk_N} {s s' : mk_S} {k n mn ma ml k' n' mn' ma' ml' mn1 ma1 ml1 y z d r c p i f m a K : Nat} {t : tr_T} {x v : Int32} {R : mk_R} {kn : Nat → Int32} {as : List mk_R}
/-- a call of version K is put up -/
theorem mm_212 (hX : mm_X B h pg S0) (hh : mm_h B h pg S0 N s k n mn1 ma1 ml1 S) (hn : n + 4 ≤ 4000) (ha : as.length ≤ 4) (hm : m < 16) (hr : 1 ≤ r ∨ as.length = 0) (b : Bool) (rs : ∀ j, (hj : j < as.length) → mm_r B mn1 ma1 r (n + j) as[j] S ∧ mk_bt m j = (b && decide (tr_k as[j].1 = 1))) (hb : mn1 + mm_is (mm_kp b as) + 1 ≤ 1000) (hba : ma1 + (mm_kp b as).length ≤ 1000) : ∃ S', fn_Mo_onCalled_212 (Int32.ofNat as.length) (Int32.ofNat n) (Int32.ofNat m) (Int32.ofNat (80 * B + K)) S = some S' ∧ mm_h B h pg S0 N s k (n + 1) (mn1 + mm_is (mm_kp b as) + 1) (ma1 + (mm_kp b as).length) ml1 S' ∧ S'.1 167 n = 0 ∧ S'.1 168 n = Int32.ofNat (3004 + 6002 * B + (mn1 + mm_is (mm_kp b as))) ∧ mm_t B (mn1 + mm_is (mm_kp b as) + 1) (ma1 + (mm_kp b as).length) (r + 1) (3004 + 6002 * B + (mn1 + mm_is (mm_kp b as))) (mk_cl K (mm_kp b as)).1 S' ∧ of_f (mm_F B k n mn1 ma1) S S' := by
  have hB := hX.1
  obtain ⟨S3, zs, f3, m3, h3, z3, o3, -⟩ := mc_224 (vv := Int32.ofNat (80 * B + K)) hX hn ha hm hr b as 0 mn1 [] (999999 - as.length) S (Nat.zero_add _) (Nat.le_refl _) hh (fun j hj => by rw [Nat.zero_add]; exact rs j hj) (fun j hj => absurd hj (Nat.not_lt_zero _)) hb
  rw [show 999999 - as.length + 1 + as.length = wd_F by rw [show wd_F = 1000000 from rfl]; omega] at f3
  have f3 : fn_Mo_onCalled_212 (Int32.ofNat as.length) (Int32.ofNat n) (Int32.ofNat m) (Int32.ofNat (80 * B + K)) S = fn_Mo_onCalled_224 (999999 - as.length + 1) (Int32.ofNat as.length) (Int32.ofNat n) (Int32.ofNat m) (Int32.ofNat (80 * B + K)) (Int32.ofNat zs.length) (Int32.ofNat as.length) S3 := f3
  have m3 : zs.map (fun p => p.2) = mm_kp b as := m3
  generalize hqs : mm_kp b as = qs at *
  have hzl : zs.length = qs.length := by rw [← m3, List.length_map]
  have hq4 : qs.length ≤ 4 := by
    have : (mm_kp b as).length ≤ as.length := by
      cases b with
      | false => exact Nat.le_refl _
      | true => exact List.length_filter_le _ _
    rw [hqs] at this
    omega
  generalize hmn2 : mn1 + mm_is qs = mn2 at *
  rw [f3, fn_Mo_onCalled_224, if_neg Int32.lt_irrefl]
  simp only [wd_b]
  rw [mm_cfg hX h3 (by omega), wd_c_s, if_neg (ms_in (show 3004 + 6002 * B + mn2 < 15010 by omega) (by decide)), if_neg (ms_in (show 3004 + 6002 * B + mn2 < 15010 by omega) (by decide)), if_neg (ms_in (show 3004 + 6002 * B + mn2 < 15010 by omega) (by decide)), im_t (show 3004 + 6002 * B + mn2 < 2147483648 by omega), fr_ne (show ¬(135 = 143 ∧ _) by omega), fr_ne (show ¬(135 = 135 ∧ 67 = 66) by omega), h3.2.2.1, hzl]
  obtain ⟨h4, o4, g3, g4, g5, g6⟩ := mm_mk hX h3 (by omega) (κ := 8) (a := Int32.ofNat (3004 + 6002 * B + ma1)) (b := Int32.ofNat qs.length) (e := Int32.ofNat (80 * B + K))
  generalize wd_i (wd_i (wd_i (wd_i (wd_i S3 135 66 (Int32.ofNat (mn2 + 1))) 143 (3004 + 6002 * B + mn2) 8) 144 (3004 + 6002 * B + mn2) (Int32.ofNat (3004 + 6002 * B + ma1))) 145 (3004 + 6002 * B + mn2) (Int32.ofNat qs.length)) 146 (3004 + 6002 * B + mn2) (Int32.ofNat (80 * B + K)) = S4 at *
  obtain ⟨S5, f5, o5, e5, l5⟩ := mc_302 (S := S4) (w := Int32.ofNat (3004 + 6002 * B + mn2)) hB hq4 (show ma1 + 4 ≤ 2000 by omega) qs.length 0 (999999 - qs.length) S4 (Nat.zero_add _) of_refl h4.2.2.1 (fun i hi => absurd hi (Nat.not_lt_zero _))
  rw [show 999999 - qs.length + 1 + qs.length = wd_F by rw [show wd_F = 1000000 from rfl]; omega] at f5
  have f5 : fn_Mo_onCalled_302 wd_F (Int32.ofNat qs.length) (Int32.ofNat (3004 + 6002 * B + mn2)) 0 S4 = fn_Mo_gives 0 (Int32.ofNat (3004 + 6002 * B + mn2)) S5 := f5
  have h5 : mm_h B h pg S0 N s k n (mn2 + 1) (ma1 + qs.length) ml1 S5 := by
    obtain ⟨a1, a2, a3, a4, a5, a6, a7, a8, a9, a10, a11, a12, a13⟩ := id h4
    exact mm_hw (k0 := 0) (n0 := 0) (mn0 := 0) (ma0 := 0) h4 (of_mono (fun a b z => by unfold mm_w; omega) o5) (by rw [o5.1 135 66 (by omega)]; exact a2) e5 (by rw [o5.1 135 70 (by omega)]; exact a6) (by rw [o5.1 135 76 (by omega)]; exact a9) (by rw [o5.1 135 79 (by omega)]; exact a10) a11 hba
  rw [f5, mm_gives h5.2.2.2.2.2.2.2.2.2.1 (by omega) (Or.inl rfl)]
  have og := mg_o (n := n) (x := 0) (v := Int32.ofNat (3004 + 6002 * B + mn2)) (S := S5)
  have w4 : of_f (mm_F B k n mn2 ma1) S3 S4 := mm_nw hX (by omega) o4 (Nat.le_refl _)
  have w5 : of_f (mm_F B k n (mn2 + 1) ma1) S4 S5 := of_mono (fun a b z => mm_w_F a b (by unfold mm_w; omega)) o5
  have w6 : of_f (mm_F B k n (mn2 + 1) (ma1 + qs.length)) S5 (mg_p n 0 (Int32.ofNat (3004 + 6002 * B + mn2)) S5) := of_mono (fun a b z => mm_w_F a b (by unfold mm_w; omega)) og
  refine ⟨_, rfl, mm_h_g h5, mg_167, mg_168, mm_t_o w6 (Nat.le_refl _) (Nat.le_refl _) ⟨by omega, by omega, Or.inr (Or.inr (Or.inr (Or.inr (Or.inl ⟨rfl, by rw [o5.1 143 _ (by omega)]; exact g3, by rw [o5.1 145 _ (by omega)]; exact g5, hq4, ⟨K, rfl, by rw [o5.1 146 _ (by omega)]; exact g6⟩, 3004 + 6002 * B + ma1, by rw [o5.1 144 _ (by omega)]; exact g4, by omega, by show 3004 + 6002 * B + ma1 + qs.length ≤ _; omega, fun j hj => ?_⟩))))⟩, ?_⟩
  · have hj : j < qs.length := hj
    have hj2 : j < zs.length := by omega
    obtain ⟨e1, e2⟩ := z3 j hj2
    refine ⟨zs[j].1, ?_, ?_⟩
    · rw [show 3004 + 6002 * B + ma1 + j = 3004 + 6002 * B + (ma1 + j) by omega, l5 j hj, o4.1 172 j (by omega)]
      exact e1
    · have et : tr_sub (mk_cl K qs).1 j = zs[j].2.1 := by
        show tr_ls (qs.map (fun a => a.1)) j = _
        unfold tr_ls
        rw [← m3, List.getD_eq_getElem?_getD, List.getElem?_map, List.getElem?_map, List.getElem?_eq_getElem hj2]
        rfl
      rw [et]
      exact mm_t_o w5 (Nat.le_refl _) (Nat.le_add_right _ _) (mm_t_o w4 (Nat.le_succ _) (Nat.le_refl _) e2)
  · exact of_trans o3 (of_trans (of_mono (mm_F_le (Nat.le_refl _) (Nat.le_refl _) (by omega) (Nat.le_refl _)) w4) (of_trans (of_mono (mm_F_le (Nat.le_refl _) (Nat.le_refl _) (by omega) (Nat.le_refl _)) w5) (of_mono (mm_F_le (Nat.le_refl _) (Nat.le_refl _) (by omega) (Nat.le_add_right _ _)) w6)))
/-- versions are more -/
theorem mm_hv (hh : mm_h B h pg S0 N s k n mn ma ml S) {vs : List mk_V} (ho : of_f (fun a b => (a = 135 ∧ b = 65) ∨ ((a = 159 ∨ a = 160) ∧ 80 * B ≤ b ∧ b < 80 * B + 80) ∨ (a = 161 ∧ 320 * B ≤ b ∧ b < 320 * B + 320)) S S') (hv : mm_v B h pg vs S') : mm_h B h pg S0 N (vs, s.2) k n mn ma ml S' ∧ ∀ k0 n0 mn0 ma0, of_f (mm_F B k0 n0 mn0 ma0) S S' := by
  have w : ∀ k0 n0 mn0 ma0 a b, ((a = 135 ∧ b = 65) ∨ ((a = 159 ∨ a = 160) ∧ 80 * B ≤ b ∧ b < 80 * B + 80) ∨ (a = 161 ∧ 320 * B ≤ b ∧ b < 320 * B + 320)) → mm_F B k0 n0 mn0 ma0 a b := fun k0 n0 mn0 ma0 a b q => by
    rcases q with q | q | q
    · exact Or.inl ⟨q.1, by omega⟩
    · exact Or.inr (Or.inr (Or.inr (Or.inr (Or.inr (Or.inr (Or.inr (Or.inl q)))))))
    · exact Or.inr (Or.inr (Or.inr (Or.inr (Or.inr (Or.inr (Or.inr (Or.inr (Or.inl q))))))))
  obtain ⟨a1, a2, a3, a4, a5, a6, a7, a8, a9, a10, a11, a12, a13, a14, a15⟩ := hh
  have e : ∀ b, b ≠ 65 → S'.1 135 b = S.1 135 b := fun b hb => ho.1 135 b (by omega)
  refine ⟨⟨of_trans a1 (of_mono (w 0 0 0 0) ho), by rw [e 66 (by decide)]; exact a2, by rw [e 67 (by decide)]; exact a3, by rw [e 68 (by decide)]; exact a4, by rw [e 69 (by decide)]; exact a5, by rw [e 70 (by decide)]; exact a6, by rw [e 71 (by decide)]; exact a7, by rw [e 73 (by decide)]; exact a8, by rw [e 76 (by decide)]; exact a9, by rw [e 79 (by decide)]; exact a10, a11, a12, a13, fun i q hi => ?_, hv⟩, fun k0 n0 mn0 ma0 => of_mono (w k0 n0 mn0 ma0) ho⟩
  obtain ⟨b1, b2, b3, b4⟩ := a14 i q hi
  exact ⟨b1, by rw [ho.1 169 i (by omega)]; exact b2, by rw [ho.1 170 i (by omega)]; exact b3, b4⟩
/-- a call that stays -/
theorem mm_174 (hX : mm_X B h pg S0) (hh : mm_h B h pg S0 N s k n mn1 ma1 ml1 S) (hn : n + 4 ≤ 4000) (ha : as.length ≤ 4) (hr : 1 ≤ r ∨ as.length = 0) (hy : y < 3004) (hf : f < pg.length) (h146 : S.1 146 y = Int32.ofNat (48 * h + f)) (hl : as.length = pg_n pg f) (rs : ∀ j, (hj : j < as.length) → mm_r B mn1 ma1 r (n + j) as[j] S) (nn : ∀ R, R ∈ as → mk_nn R) (hkn : ∀ j, j < as.length → mk_nb as j = true → S.1 171 j = mk_kn as j) (hmn : mn1 = mn + mm_nzs as) (hma : ma1 + as.length ≤ mm_nzs as + ma + mm_is as) (hma0 : ma ≤ ma1) (hml : ml1 = ml + mk_lt as) (hb : mn + 1 + mk_sz as ≤ 1000) (hmam : ma ≤ mn) (hS9 : of_f (mm_F B k n mn ma) S9 S) (hg : ∀ S', fn_Mo_onCalled_174 (Int32.ofNat y) (Int32.ofNat as.length) (Int32.ofNat n) (Int32.ofNat (mk_ma as)) S = some S' → mm_go 1 S9 S') (hc : c + 1 ≤ 3 * s.2.1) : mm_O B h pg S0 (r + 1) k n mn ma ml c (.ok ((mk_go f as s).1, N, (mk_go f as s).2)) S9 := by
  have hB := hX.1
  have hh1 := hX.2.1
  have hpl := hX.2.2.2.2.1
  have hpn := hX.2.2.2.2.2
  have h15 := hh.2.2.2.2.2.2.2.2.2.2.2.2.2.2
  have hlv := mk_ok_len h15.2.1
  have hm2 : mk_ma as < 2 ^ pg_n pg f := by
    unfold mk_ma
    rw [hl]
    exact mk_mk_lt _ _
  have hp16 : 2 ^ pg_n pg f ≤ 2 ^ 4 := Nat.pow_le_pow_right (by decide) (hpn _)
  have hm16 : mk_ma as < 16 := by omega
  have hk4 : ∀ i, i < 4 → mk_bt (mk_ma as) i = true → S.1 171 i = mk_kn as i := fun i _ hb => by
    unfold mk_ma at hb
    rw [mk_mk_bt, Bool.and_eq_true] at hb
    exact hkn i (of_decide_eq_true hb.1) hb.2
  have hk0 : ∀ i, i < 4 → mk_bt 0 i = true → S.1 171 i = mk_kn as i := fun i _ hb => by rw [mk_bt_0] at hb; cases hb
  have hneg : ∀ k : Nat, k < 1000 → ¬Int32.ofNat k = -1 := fun k hk q => im_neg (n := k) (by omega) (by rw [q]; decide)
  obtain ⟨d1, d2, d3⟩ := mk_ld_ok (as := as) (kn := mk_kn as) h15.2.1 hf hm2
  have eg : mk_go f as s = (mk_cl (mk_ld f (mk_ma as) (mk_kn as) as s.1).1 (mk_ld f (mk_ma as) (mk_kn as) as s.1).2.1, (mk_ld f (mk_ma as) (mk_kn as) as s.1).2.2, s.2) := rfl
  rw [eg]
  clear eg
  have z0 := mm_szs as nn
  have zk := mm_kp_nz as
  have zk2 := mm_szs (mk_kp as) (fun R hR => nn R (List.mem_filter.mp hR).1)
  have zi := mm_is_le as
  have bits1 : ∀ j, (hj : j < as.length) → mk_bt (mk_ma as) j = (true && decide (tr_k as[j].1 = 1)) := fun j hj => by
    unfold mk_ma
    rw [mk_mk_bt, decide_eq_true hj, Bool.true_and, Bool.true_and]
    unfold mk_nb mk_at
    rw [List.getD_eq_getElem?_getD, List.getElem?_eq_getElem hj]
    rfl
  /- with the version told, the call is put up -/
  have hput : ∀ (b : Bool) (m K : Nat) (vs : List mk_V) (S1 : wd_S), m < 16 → (∀ j, (hj : j < as.length) → mk_bt m j = (b && decide (tr_k as[j].1 = 1))) → mm_h B h pg S0 N (vs, s.2) k n mn1 ma1 ml1 S1 → (∀ k0 n0 mn0 ma0, of_f (mm_F B k0 n0 mn0 ma0) S S1) → (∀ S', fn_Mo_onCalled_212 (Int32.ofNat as.length) (Int32.ofNat n) (Int32.ofNat m) (Int32.ofNat (80 * B + K)) S1 = some S' → mm_go 1 S9 S') → mm_O B h pg S0 (r + 1) k n mn ma ml c (.ok (mk_cl K (mm_kp b as), N, vs, s.2)) S9 := fun b m K vs S1 g1 g2 g3 g4 g5 => by
    have hq : mm_nzs (mm_kp b as) = mm_nzs as ∧ mm_nzs (mm_kp b as) + mm_is (mm_kp b as) = mk_sz (mm_kp b as) ∧ (mm_kp b as).length + mm_is as = as.length + mm_is (mm_kp b as) ∧ mk_sz (mm_kp b as) ≤ mk_sz as ∧ mk_lt (mm_kp b as) = mk_lt as := by
      cases b with
      | false => exact ⟨rfl, z0, rfl, Nat.le_refl _, rfl⟩
      | true => exact ⟨zk.1, zk2, by show (mk_kp as).length + mm_is as = as.length + mm_is (mk_kp as); omega, mk_kp_sz as, mk_kp_lt as nn⟩
    obtain ⟨q1, q2, q3, q4, q5⟩ := hq
    obtain ⟨S5, f5, h5, e1, e2, t5, o5⟩ := mm_212 (K := K) hX g3 hn ha g1 hr b (fun j hj => ⟨mm_r_o (g4 0 4000 mn1 ma1) (by omega) (Nat.le_refl _) (Nat.le_refl _) (rs j hj), g2 j hj⟩) (by omega) (by omega)
    refine mm_close h5 (show ¬(5 : Int32) = 1 by decide) ?_ ?_ ?_ ?_ e1 e2 t5 (of_trans hS9 (of_trans (g4 k n mn ma) (of_mono (mm_F_le (Nat.le_refl _) (Nat.le_refl _) (by omega) hma0) o5))) (g5 S5 f5) hc
    · show _ = mn + (1 + mk_sz (mm_kp b as))
      omega
    · show _ ≤ 1 + mk_sz (mm_kp b as) + ma
      omega
    · omega
    · show ml1 = ml + mk_lt (mm_kp b as)
      rw [q5]; exact hml
  have hX64 := mm_64 hX hh.1
  unfold fn_Mo_onCalled_174 at hg
  rw [if_neg (ms_in (show y < 15010 by omega) (by decide)), im_t (show y < 2147483648 by omega), h146, mv_of hB hh1 hX64 hm16 (by omega) h15 hpl hpn hk4] at hg
  unfold mk_ld at d1 d2 d3 ⊢
  cases e1 : mk_fd f (mk_ma as) (mk_kn as) s.1 0 with
  | some j =>
    obtain ⟨-, k1, -⟩ := mk_fd_lt _ _ _ e1
    rw [e1] at hg
    dsimp only at hg ⊢
    rw [wd_c_s, if_neg (hneg _ (by omega))] at hg
    exact hput true (mk_ma as) j s.1 S hm16 bits1 hh (fun _ _ _ _ => of_refl) hg
  | none =>
    rw [e1] at d1 d2 d3 hg
    dsimp only at d1 d2 d3 hg ⊢
    unfold mv_tl at hg
    rw [if_pos rfl, h15.1] at hg
    by_cases hlt : s.1.length < 30
    · rw [if_pos hlt] at d1 d2 d3 ⊢
      rw [if_pos (show Int32.ofNat s.1.length < 30 from (im_lt (m := s.1.length) (n := 30) (by omega) (by omega)).mpr hlt)] at hg
      obtain ⟨S2, f2, o2, v2⟩ := mv_add (f := f) hB h15 hpl hpn d1 hk4
      rw [f2, wd_c_s, if_neg (hneg _ (by omega))] at hg
      obtain ⟨h2, w2⟩ := mm_hv hh o2 v2
      exact hput true (mk_ma as) s.1.length _ S2 hm16 bits1 h2 w2 hg
    · rw [if_neg hlt] at d1 d2 d3 ⊢
      rw [if_neg (show ¬Int32.ofNat s.1.length < 30 from fun q => hlt ((im_lt (m := s.1.length) (n := 30) (by omega) (by omega)).mp q)), wd_c_s, if_pos rfl, if_neg (ms_iy (show y < 15010 by omega) (by decide)), h146, show (0 : Int32) = Int32.ofNat 0 from rfl, mv_of hB hh1 hX64 (m := 0) (by decide) (by omega) h15 hpl hpn hk0] at hg
      cases e2 : mk_fd f 0 (mk_kn as) s.1 0 with
      | some j =>
        obtain ⟨-, k1, -⟩ := mk_fd_lt _ _ _ e2
        rw [e2] at hg
        dsimp only at hg ⊢
        rw [wd_c_s] at hg
        exact hput false 0 j s.1 S (by decide) (fun j _ => mk_bt_0 j) hh (fun _ _ _ _ => of_refl) hg
      | none =>
        rw [e2] at d1 d2 d3 hg
        dsimp only at d1 d2 d3 hg ⊢
        unfold mv_tl at hg
        rw [if_neg (show ¬(1 : Int32) = 0 by decide)] at hg
        obtain ⟨S2, f2, o2, v2⟩ := mv_add (f := f) (m := 0) hB h15 hpl hpn d1 hk0
        rw [f2, wd_c_s] at hg
        obtain ⟨h2, w2⟩ := mm_hv hh o2 v2
        exact hput false 0 s.1.length _ S2 (by decide) (fun j _ => mk_bt_0 j) h2 w2 hg
end Mm9
end
/-! part b19 -/
section
/-! The reference's maker: calls, whole. -/
section Mma
variable {B h : Nat} {pg : pg_T} {S0 S S' S1 S2 S3 S9 : wd_S} {N N' : mk_N} {s s' : mk_S} {k n mn ma ml k' n' mn' ma' ml' mn1 ma1 ml1 y z d r c p i f m a K : Nat} {t : tr_T} {x v : Int32} {R : mk_R} {kn : Nat → Int32} {as : List mk_R}
theorem mm_hf {W : Nat → Nat → Prop} (hh : mm_h B h pg S0 N s k n mn ma ml S) (ho : of_f W S S') (hF : ∀ a b, W a b → mm_F B 0 0 0 0 a b) (hW : ∀ a b, W a b → (a = 135 → b < 65) ∧ a ≠ 169 ∧ a ≠ 170 ∧ ¬(159 ≤ a ∧ a ≤ 161)) : mm_h B h pg S0 N s k n mn ma ml S' := by
  obtain ⟨a1, a2, a3, a4, a5, a6, a7, a8, a9, a10, a11, a12, a13, a14, a15⟩ := hh
  have e : ∀ b, 65 ≤ b → S'.1 135 b = S.1 135 b := fun b hb => ho.1 135 b (fun q => by have := (hW _ _ q).1 rfl; omega)
  refine ⟨of_trans a1 (of_mono hF ho), by rw [e 66 (by omega)]; exact a2, by rw [e 67 (by omega)]; exact a3, by rw [e 68 (by omega)]; exact a4, by rw [e 69 (by omega)]; exact a5, by rw [e 70 (by omega)]; exact a6, by rw [e 71 (by omega)]; exact a7, by rw [e 73 (by omega)]; exact a8, by rw [e 76 (by omega)]; exact a9, by rw [e 79 (by omega)]; exact a10, a11, a12, a13, fun i q hi => ?_, by rw [e 65 (by omega)]; exact a15.1, a15.2.1, fun j hj => ?_⟩
  · obtain ⟨b1, b2, b3, b4⟩ := a14 i q hi
    exact ⟨b1, by rw [ho.1 169 i (fun q => (hW _ _ q).2.1 rfl)]; exact b2, by rw [ho.1 170 i (fun q => (hW _ _ q).2.2.1 rfl)]; exact b3, b4⟩
  · obtain ⟨b1, b2, b3⟩ := a15.2.2 j hj
    exact ⟨by rw [ho.1 159 _ (fun q => (hW _ _ q).2.2.2 (by omega))]; exact b1, by rw [ho.1 160 _ (fun q => (hW _ _ q).2.2.2 (by omega))]; exact b2, fun i hi => by rw [ho.1 161 _ (fun q => (hW _ _ q).2.2.2 (by omega))]; exact b3 i hi⟩
theorem mm_68 (hh : mm_h B h pg S0 N s k n mn ma ml S) : mm_h B h pg S0 N (s.1, s.2.1, s.2.2.1 + 1, s.2.2.2) k n mn ma ml (wd_i S 135 68 (Int32.ofNat (s.2.2.1 + 1))) := by
  obtain ⟨a1, a2, a3, a4, a5, a6, a7, a8, a9, a10, a11, a12, a13, a14, a15⟩ := hh
  have e : ∀ b, b ≠ 68 → (wd_i S 135 68 (Int32.ofNat (s.2.2.1 + 1))).1 135 b = S.1 135 b := fun b hb => fr_ne (by omega)
  have f : ∀ a b, a ≠ 135 → (wd_i S 135 68 (Int32.ofNat (s.2.2.1 + 1))).1 a b = S.1 a b := fun a b hb => fr_ne (by omega)
  refine ⟨of_trans a1 (of_i (Or.inl ⟨rfl, by omega⟩) of_refl), by rw [e 66 (by decide)]; exact a2, by rw [e 67 (by decide)]; exact a3, fr_eq, by rw [e 69 (by decide)]; exact a5, by rw [e 70 (by decide)]; exact a6, by rw [e 71 (by decide)]; exact a7, by rw [e 73 (by decide)]; exact a8, by rw [e 76 (by decide)]; exact a9, by rw [e 79 (by decide)]; exact a10, a11, a12, a13, fun i q hi => ?_, by rw [e 65 (by decide)]; exact a15.1, a15.2.1, fun j hj => ?_⟩
  · obtain ⟨b1, b2, b3, b4⟩ := a14 i q hi
    exact ⟨b1, by rw [f 169 i (by decide)]; exact b2, by rw [f 170 i (by decide)]; exact b3, b4⟩
  · obtain ⟨b1, b2, b3⟩ := a15.2.2 j hj
    exact ⟨by rw [f 159 _ (by decide)]; exact b1, by rw [f 160 _ (by decide)]; exact b2, fun i hi => by rw [f 161 _ (by decide)]; exact b3 i hi⟩
theorem mm_69 (hh : mm_h B h pg S0 N s k n mn ma ml S) : mm_h B h pg S0 N (s.1, s.2.1, s.2.2.1, s.2.2.2 + 1) k n mn ma ml (wd_i S 135 69 (Int32.ofNat (s.2.2.2 + 1))) := by
  obtain ⟨a1, a2, a3, a4, a5, a6, a7, a8, a9, a10, a11, a12, a13, a14, a15⟩ := hh
  have e : ∀ b, b ≠ 69 → (wd_i S 135 69 (Int32.ofNat (s.2.2.2 + 1))).1 135 b = S.1 135 b := fun b hb => fr_ne (by omega)
  have f : ∀ a b, a ≠ 135 → (wd_i S 135 69 (Int32.ofNat (s.2.2.2 + 1))).1 a b = S.1 a b := fun a b hb => fr_ne (by omega)
  refine ⟨of_trans a1 (of_i (Or.inl ⟨rfl, by omega⟩) of_refl), by rw [e 66 (by decide)]; exact a2, by rw [e 67 (by decide)]; exact a3, by rw [e 68 (by decide)]; exact a4, fr_eq, by rw [e 70 (by decide)]; exact a6, by rw [e 71 (by decide)]; exact a7, by rw [e 73 (by decide)]; exact a8, by rw [e 76 (by decide)]; exact a9, by rw [e 79 (by decide)]; exact a10, a11, a12, a13, fun i q hi => ?_, by rw [e 65 (by decide)]; exact a15.1, a15.2.1, fun j hj => ?_⟩
  · obtain ⟨b1, b2, b3, b4⟩ := a14 i q hi
    exact ⟨b1, by rw [f 169 i (by decide)]; exact b2, by rw [f 170 i (by decide)]; exact b3, b4⟩
  · obtain ⟨b1, b2, b3⟩ := a15.2.2 j hj
    exact ⟨by rw [f 159 _ (by decide)]; exact b1, by rw [f 160 _ (by decide)]; exact b2, fun i hi => by rw [f 161 _ (by decide)]; exact b3 i hi⟩
theorem mm_gP (hX : mm_X B h pg S0) (hh : of_f (mm_F B 0 0 0 0) S0 S) : mg_P (48 * h) (1501 * h) (1501 * h + 1500) (1501 * h) (1501 * h + 1500) 96 140 96 (pg_P pg) S := fun j hj => by
  have hj2 : j < pg.length := by unfold pg_P at hj; rw [List.length_map] at hj; exact hj
  obtain ⟨-, -, -, y, e1, e2⟩ := hX.2.2.2.1 j hj2
  have hh1 := hX.2.1
  have hpl := hX.2.2.2.2.1
  refine ⟨by omega, y, by rw [hh.1 140 _ (by unfold mm_F; omega)]; exact e1, ?_⟩
  rw [show (pg_P pg)[j] = pg[j].2.1 from List.getElem_map _]
  exact mm_txt hX hh e2
theorem mm_X_F {k0 n0 mn0 ma0 : Nat} : ∀ a b, mgX a b → mm_F B k0 n0 mn0 ma0 a b := fun a b q => by
  unfold mgX at q
  rcases q with q | q | q | q | q
  · exact Or.inl ⟨q.1, by omega⟩
  · exact Or.inr (Or.inr (Or.inr (Or.inl q)))
  · exact Or.inr (Or.inr (Or.inr (Or.inr (Or.inl q))))
  · exact Or.inr (Or.inr (Or.inr (Or.inr (Or.inr (Or.inl q)))))
  · exact Or.inr (Or.inr (Or.inr (Or.inr (Or.inr (Or.inr (Or.inl q))))))
theorem mm_171_F {k0 n0 mn0 ma0 : Nat} : ∀ a b, a = 171 → mm_F B k0 n0 mn0 ma0 a b := fun a b q => Or.inr (Or.inr (Or.inr (Or.inr (Or.inr (Or.inr (Or.inr (Or.inr (Or.inr (Or.inr (Or.inr ⟨by omega, by omega⟩))))))))))
theorem mm_158_F {k0 n0 mn0 ma0 : Nat} : ∀ a b, a = 158 → mm_F B k0 n0 mn0 ma0 a b := fun a b q => Or.inr (Or.inr (Or.inr (Or.inr (Or.inr (Or.inr (Or.inl q))))))
/-- CALLED -/
theorem mm_called (hX : mm_X B h pg S0) (hh : mm_h B h pg S0 N s (k + 1) (n + as.length) mn1 ma1 ml1 S) (hk : k < 4000) (hn : n + 4 ≤ 4000) (h165 : S.1 165 k = 7) (h166 : S.1 166 k = Int32.ofNat y) (hy : y < 3004) (ha : as.length ≤ 4) (h145 : S.1 145 y = Int32.ofNat as.length) (hf : f < pg.length) (h146 : S.1 146 y = Int32.ofNat (48 * h + f)) (hl : as.length = pg_n pg f) (hr : 1 ≤ r ∨ as.length = 0) (rs : ∀ j, (hj : j < as.length) → mm_r B mn1 ma1 r (n + j) as[j] S) (nn : ∀ R, R ∈ as → mk_nn R) (hmn : mn1 = mn + mm_nzs as) (hma : ma1 + as.length ≤ mm_nzs as + ma + mm_is as) (hma0 : ma ≤ ma1) (hml : ml1 = ml + mk_lt as) (hb : mn + 1 + mk_sz as ≤ 1000) (hmam : ma ≤ mn) (hc : c + 1 ≤ 3 * s.2.1) : mm_O B h pg S0 (r + 1) k n mn ma ml c (mk_b (mk_call (pg_P pg) f as s) fun w => .ok (w.1, N, w.2)) S := by
  have hB := hX.1
  have hh1 := hX.2.1
  have hpl := hX.2.2.2.2.1
  have hpn := hX.2.2.2.2.2 f
  have h1 := mm_pop_h hh
  have h2 : mm_h B h pg S0 N s k n mn1 ma1 ml1 (wd_i (wd_i S 135 76 (Int32.ofNat k)) 135 79 (Int32.ofNat n)) := mm_h_79 h1
  have e145 : (wd_i S 135 76 (Int32.ofNat k)).1 145 y = Int32.ofNat as.length := by rw [fr_ne (by omega)]; exact h145
  have e79 : (wd_i S 135 76 (Int32.ofNat k)).1 135 79 - Int32.ofNat as.length = Int32.ofNat n := by
    rw [h1.2.2.2.2.2.2.2.2.2.1]
    exact im_sb n as.length
  have q79 : (wd_i (wd_i S 135 76 (Int32.ofNat k)) 135 79 (Int32.ofNat n)).1 135 79 = Int32.ofNat n := fr_eq
  have o2 : ∀ k0 n0 mn0 ma0, of_f (mm_F B k0 n0 mn0 ma0) S (wd_i (wd_i S 135 76 (Int32.ofNat k)) 135 79 (Int32.ofNat n)) := fun k0 n0 mn0 ma0 => of_i (Or.inl ⟨rfl, by omega⟩) (of_i (Or.inl ⟨rfl, by omega⟩) of_refl)
  have y146 : (wd_i (wd_i S 135 76 (Int32.ofNat k)) 135 79 (Int32.ofNat n)).1 146 y = Int32.ofNat (48 * h + f) := by rw [fr_ne (by omega), fr_ne (by omega)]; exact h146
  have ep : ∀ S', fn_Mo_onMaking 7 (Int32.ofNat y) (wd_i S 135 76 (Int32.ofNat k)) = some S' → mm_go 1 S S' := fun S' q => mm_pop hh hk (by rw [h165, h166]; exact q)
  have ef : fn_Mo_onMaking 7 (Int32.ofNat y) (wd_i S 135 76 (Int32.ofNat k)) = fn_Mo_onCalled_28 wd_F (Int32.ofNat y) (Int32.ofNat as.length) (Int32.ofNat n) 0 0 (wd_i (wd_i S 135 76 (Int32.ofNat k)) 135 79 (Int32.ofNat n)) := by
    unfold fn_Mo_onMaking
    rw [if_neg (show ¬(7 : Int32) = 1 by decide), if_neg (show ¬(7 : Int32) = 2 by decide), if_neg (show ¬(7 : Int32) = 3 by decide), if_neg (show ¬(7 : Int32) = 4 by decide), if_neg (show ¬(7 : Int32) = 5 by decide), if_neg (show ¬(7 : Int32) = 6 by decide)]
    unfold fn_Mo_onCalled fn_Mo_onMaking_566
    simp only [wd_b, wd_d_id]
    rw [if_neg (ms_in (show y < 15010 by omega) (by decide)), im_t (show y < 2147483648 by omega), e145, e79, q79]
  rw [ef] at ep
  clear ef
  generalize wd_i (wd_i S 135 76 (Int32.ofNat k)) 135 79 (Int32.ofNat n) = S2 at *
  have rs2 : ∀ j, (hj : j < as.length) → mm_r B mn1 ma1 r (n + j) as[j] S2 := fun j hj => mm_r_o (o2 0 4000 mn1 ma1) (by omega) (Nat.le_refl _) (Nat.le_refl _) (rs j hj)
  obtain ⟨S3, f3, o3, w3⟩ := mc_28 (as := as) (S := S2) (y := y) hn ha (fun j hj => by
    rcases rs2 j hj with ⟨q1, q2, -⟩ | ⟨q1, q2, -⟩
    · rw [q2]; exact ⟨fun z => absurd z (by decide), fun z => absurd q1 z⟩
    · exact ⟨fun _ => q1, fun _ => q2⟩) as.length 0 (999999 - as.length) S2 (Nat.zero_add _) of_refl (fun j hj => absurd hj (Nat.not_lt_zero _))
  rw [show 999999 - as.length + 1 + as.length = wd_F by rw [show wd_F = 1000000 from rfl]; omega] at f3
  have f3 : fn_Mo_onCalled_28 wd_F (Int32.ofNat y) (Int32.ofNat as.length) (Int32.ofNat n) 0 0 S2 = _ := f3
  rw [f3] at ep
  clear f3
  have h3 := mm_hf h2 o3 mm_171_F (fun a b q => by omega)
  have o23 : ∀ k0 n0 mn0 ma0, of_f (mm_F B k0 n0 mn0 ma0) S S3 := fun k0 n0 mn0 ma0 => of_trans (o2 k0 n0 mn0 ma0) (of_mono mm_171_F o3)
  have rs3 : ∀ j, (hj : j < as.length) → mm_r B mn1 ma1 r (n + j) as[j] S3 := fun j hj => mm_r_o (o23 0 4000 mn1 ma1) (by omega) (Nat.le_refl _) (Nat.le_refl _) (rs j hj)
  have y3 : S3.1 146 y = Int32.ofNat (48 * h + f) := by rw [o3.1 146 y (by omega)]; exact y146
  have kn3 : ∀ j, j < as.length → mk_nb as j = true → S3.1 171 j = mk_kn as j := fun j hj hnb => by
    unfold mk_nb at hnb
    unfold mk_kn
    have em : mk_at as j = as[j] := by unfold mk_at; rw [List.getD_eq_getElem?_getD, List.getElem?_eq_getElem hj]; rfl
    rw [em] at hnb ⊢
    rw [w3 j hj]
    rcases rs2 j hj with ⟨q1, q2, q3, -⟩ | ⟨q1, -⟩
    · exact q3
    · exact absurd (of_decide_eq_true hnb) q1
  have hm2 : mk_ma as < 2 ^ as.length := mk_mk_lt _ _
  have hp16 : 2 ^ as.length ≤ 2 ^ 4 := Nat.pow_le_pow_right (by decide) ha
  unfold mk_call
  by_cases e : mk_ma as = 2 ^ as.length - 1
  · have hall : ∀ i, i < as.length → mk_nb as i = true := (mk_mk_all _ _).mp e
    have hnum := mm_alln hall
    obtain ⟨z1, z2, z3⟩ := mm_all0 as hnum nn
    have em : mn1 = mn := by omega
    have ea : ma1 = ma := by omega
    have el : ml1 = ml := by omega
    rw [if_pos (show Int32.ofNat (mk_ma as) = Int32.ofNat (2 ^ as.length - 1) by rw [e])] at ep
    rw [if_pos e]
    obtain ⟨S4, f4, o4, w4⟩ := mc_94 (S := S3) (y := y) (m := Int32.ofNat (mk_ma as)) hn ha as.length 0 (999999 - as.length) S3 (Nat.zero_add _) of_refl (fun j hj => absurd hj (Nat.not_lt_zero _))
    rw [show 999999 - as.length + 1 + as.length = wd_F by rw [show wd_F = 1000000 from rfl]; omega] at f4
    have f4 : fn_Mo_onCalled_94 wd_F (Int32.ofNat y) (Int32.ofNat as.length) (Int32.ofNat n) (Int32.ofNat (mk_ma as)) 0 S3 = _ := f4
    have h4 := mm_hf h3 o4 mm_158_F (fun a b q => by omega)
    have y4 : S4.1 146 y = Int32.ofNat (48 * h + f) := by rw [o4.1 146 y (by omega)]; exact y3
    rw [f4, fn_Mo_onCalled_94, if_neg Int32.lt_irrefl] at ep
    simp only [wd_b] at ep
    rw [h4.2.2.2.1, im_s] at ep
    have h5 := mm_68 h4
    have o5 : of_f (fun a b => a = 135 ∧ b = 68) S4 (wd_i S4 135 68 (Int32.ofNat (s.2.2.1 + 1))) := of_i ⟨rfl, rfl⟩ of_refl
    generalize wd_i S4 135 68 (Int32.ofNat (s.2.2.1 + 1)) = S5 at *
    have o45 : ∀ k0 n0 mn0 ma0, of_f (mm_F B k0 n0 mn0 ma0) S S5 := fun k0 n0 mn0 ma0 => of_trans (o23 k0 n0 mn0 ma0) (of_trans (of_mono mm_158_F o4) (of_mono (fun a b q => Or.inl ⟨q.1, by omega⟩) o5))
    have y5 : S5.1 146 y = Int32.ofNat (48 * h + f) := by rw [o5.1 146 y (by omega)]; exact y4
    have gP := mm_gP hX h5.1
    have hfl : f < (pg_P pg).length := by unfold pg_P; rw [List.length_map]; exact hf
    obtain ⟨-, yb, e1, e2⟩ := gP f hfl
    have hv : me_e 0 (ev_l (as.map (fun a => tr_v a.1))) S5 := fun i v hi => by
      unfold ev_l at hi
      obtain ⟨q1, q2⟩ := List.getElem?_eq_some_iff.mp hi
      have q1' : i < as.length := by rw [List.length_map] at q1; exact q1
      refine ⟨by omega, ?_⟩
      rw [show 16 * 0 + i = i by omega, o5.1 158 i (by omega), w4 i q1', o3.1 168 (n + i) (by omega)]
      rcases rs2 i q1' with ⟨p1, p2, p3, -⟩ | ⟨p1, -⟩
      · rw [p3, ← q2, List.getElem_map]
      · exact absurd (hnum _ (List.getElem_mem q1')) p1
    have hgo := mo_goes (lim := 500) (V := ev_l (as.map (fun a => tr_v a.1))) (show mg_R (1501 * h) (1501 * h + 1500) (1501 * h + 1500) 140 96 from ⟨Or.inl ⟨rfl, by omega, rfl⟩, by omega⟩) gP e2 hv (by decide)
    rw [if_neg (ms_in (show y < 15010 by omega) (by decide)), im_t (show y < 2147483648 by omega), y5, if_neg (ms_in (show 48 * h + f < 96 by omega) (by decide)), im_t (show 48 * h + f < 2147483648 by omega), e1] at ep
    rw [show (pg_P pg).getD f tr_z = (pg_P pg)[f] by rw [List.getD_eq_getElem?_getD, List.getElem?_eq_getElem hfl]; rfl]
    cases hq : ev (pg_P pg) 500 160 (ev_l (as.map (fun a => tr_v a.1))) 0 0 (pg_P pg)[f] with
    | error er =>
      cases er with
      | none => trivial
      | some er =>
        rw [hq] at hgo
        obtain ⟨S6, k1, -, -, -, k5⟩ := hgo
        have k1 : fn_Mo_goes (Int32.ofNat yb) 500 S5 = some (er.1, S6) := k1
        have hne : ¬er.1 = 1 := by rcases ev_er _ _ _ _ _ _ hq with z | z <;> rw [z] <;> decide
        rw [k1, wd_c_s, if_neg hne] at ep
        have h6 := mm_hf h5 k5 mm_X_F (fun a b q => by unfold mgX at q; omega)
        have o6 : ∀ k0 n0 mn0 ma0, of_f (mm_F B k0 n0 mn0 ma0) S S6 := fun k0 n0 mn0 ma0 => of_trans (o45 k0 n0 mn0 ma0) (of_mono mm_X_F k5)
        exact mm_174 (s := (s.1, s.2.1, s.2.2.1 + 1, s.2.2.2)) hX h6 hn ha hr hy hf (by rw [k5.1 146 y (by unfold mgX; omega)]; exact y5) hl (fun j hj => mm_r_o (o6 0 4000 mn1 ma1) (by omega) (Nat.le_refl _) (Nat.le_refl _) (rs j hj)) nn (fun j q1 q2 => by rw [k5.1 171 j (by unfold mgX; omega), o5.1 171 j (by omega), o4.1 171 j (by omega)]; exact kn3 j q1 q2) hmn hma hma0 hml hb hmam (o6 k n mn ma) ep hc
    | ok q =>
      rw [hq] at hgo
      obtain ⟨S6, k1, k2, -, -, k5⟩ := hgo
      have k1 : fn_Mo_goes (Int32.ofNat yb) 500 S5 = some (1, S6) := k1
      have h6 := mm_hf h5 k5 mm_X_F (fun a b q => by unfold mgX at q; omega)
      have o6 : ∀ k0 n0 mn0 ma0, of_f (mm_F B k0 n0 mn0 ma0) S S6 := fun k0 n0 mn0 ma0 => of_trans (o45 k0 n0 mn0 ma0) (of_mono mm_X_F k5)
      rw [k1, wd_c_s, if_pos rfl, h6.2.2.2.2.1, im_s] at ep
      have h7 := mm_69 h6
      have e47 : (wd_i S6 135 69 (Int32.ofNat (s.2.2.2 + 1))).1 135 47 = q.1 := by rw [fr_ne (by omega)]; exact k2
      have o7 : of_f (fun a b => a = 135 ∧ b = 69) S6 (wd_i S6 135 69 (Int32.ofNat (s.2.2.2 + 1))) := of_i ⟨rfl, rfl⟩ of_refl
      rw [e47, mm_gives h7.2.2.2.2.2.2.2.2.2.1 (by omega) (Or.inr rfl), wd_d_s] at ep
      subst em ea el
      exact mm_close_n (s := (s.1, s.2.1, s.2.2.1 + 1, s.2.2.2 + 1)) (mm_h_g h7) mg_167 mg_168 (of_trans (o6 k n mn1 ma1) (of_trans (of_mono (fun a b q => Or.inl ⟨q.1, by omega⟩) o7) (of_mono (fun a b z => mm_w_F a b (by unfold mm_w; omega)) mg_o))) (ep _ rfl) hc
  · rw [if_neg (show ¬Int32.ofNat (mk_ma as) = Int32.ofNat (2 ^ as.length - 1) from fun q => e ((im_eq (by omega) (by omega)).mp q))] at ep
    rw [if_neg e]
    exact mm_174 hX h3 hn ha hr hy hf y3 hl rs3 nn kn3 hmn hma hma0 hml hb hmam (o23 k n mn ma) ep hc
end Mma
end
/-! part b20 -/
section
/-! The reference's maker: what becomes of any EXPRESSION. -/
section Mmb
variable {B h : Nat} {pg : pg_T} {S0 S S' S1 S2 S3 S9 : wd_S} {N N' : mk_N} {s s' : mk_S} {k n mn ma ml k' n' mn' ma' ml' mn1 ma1 ml1 y z d r c p i f m a K : Nat} {t : tr_T} {x v : Int32} {R : mk_R} {kn : Nat → Int32} {as : List mk_R}
theorem mk_r1 {q : mk_O} (hq : mk pg r N s t = .ok q) : 1 ≤ r := by
  cases r with
  | zero => cases hq
  | succ r => omega
/-- an EXPRESSION that is begun: the task is taken, one more is gone through -/
def mm_E (B h : Nat) (pg : pg_T) (S0 : wd_S) (N : mk_N) (s : mk_S) (k n mn ma ml y : Nat) (S S2 : wd_S) : Prop := mm_h B h pg S0 N (s.1, s.2.1 + 1, s.2.2) k n mn ma ml S2 ∧ of_f (fun a b => a = 135 ∧ (b = 71 ∨ b = 76)) S S2 ∧ ∀ S1, S1 = wd_i S 135 76 (Int32.ofNat k) → S2 = wd_i S1 135 71 (S1.1 135 71 + 1) ∧ ¬S1.1 135 71 = 1000 ∧ S1.1 135 76 = Int32.ofNat k ∧ ∀ S', fn_Mo_onEv (Int32.ofNat y) S1 = some S' → mm_go 1 S S'
theorem mm_beg (hX : mm_X B h pg S0) (hh : mm_h B h pg S0 N s (k + 1) n mn ma ml S) (hk : k < 4000) (h165 : S.1 165 k = 1) (h166 : S.1 166 k = Int32.ofNat y) (hg : ¬1000 ≤ s.2.1) : ∃ S2, mm_E B h pg S0 N s k n mn ma ml y S S2 := by
  have h1 := mm_pop_h hh
  have h2 := mm_up hX h1 hg
  have e71 : (wd_i S 135 76 (Int32.ofNat k)).1 135 71 = Int32.ofNat s.2.1 := h1.2.2.2.2.2.2.1
  refine ⟨_, h2, of_i (by omega) (of_i (by omega) of_refl), fun S1 e => ?_⟩
  subst e
  refine ⟨by rw [e71, im_s], mm_ev0 hg e71, fr_eq, fun S' q => mm_pop hh hk (by rw [h165, h166, mm_mk1]; exact q)⟩
theorem mm_Ew (ho : of_f (fun a b => a = 135 ∧ (b = 71 ∨ b = 76)) S S2) : ∀ k0 n0 mn0 ma0, of_f (mm_F B k0 n0 mn0 ma0) S S2 := fun k0 n0 mn0 ma0 => of_mono (fun a b q => Or.inl ⟨q.1, by omega⟩) ho
theorem mm_pw {k0 n0 mn0 ma0 : Nat} (hk : k0 ≤ k) : of_f (mm_F B k0 n0 mn0 ma0) S (ml_p k x v S) := of_mono (fun a b z => mm_w_F a b (by unfold mm_w; omega)) ml_o
/-- the text's node, as S has it -/
theorem mm_n (hX : mm_X B h pg S0) (hh : of_f (mm_F B 0 0 0 0) S0 S) (hy : y < 3004) : S.1 143 y = S0.1 143 y ∧ S.1 144 y = S0.1 144 y ∧ S.1 145 y = S0.1 145 y ∧ S.1 146 y = S0.1 146 y := ⟨hh.1 _ _ (by unfold mm_F; omega), hh.1 _ _ (by unfold mm_F; omega), hh.1 _ _ (by unfold mm_F; omega), hh.1 _ _ (by unfold mm_F; omega)⟩
theorem mm_a9 (hX : mm_X B h pg S0) (hh : of_f (mm_F B 0 0 0 0) S0 S) (hy : y < 3004) : S.1 149 y = S0.1 149 y := hh.1 _ _ (by unfold mm_F; omega)
theorem mm_sign (hX : mm_X B h pg S0) (hS : mm_S B h pg S0 r) (hE : mm_E B h pg S0 N s k n mn ma ml y S S2) (hmn : mn ≤ s.2.1) (hma : ma ≤ mn) (hk : k + 6 * (r + 1) ≤ 3900) (hn : n + 5 * (r + 1) ≤ 3900) (hy : y < 3004) {kd : Int32} (hkd : kd = 6 ∨ kd = 7 ∨ kd = 8 ∨ kd = 9 ∨ kd = 10) (hkt : tr_k t = kd) (h143 : S0.1 143 y = 1) (h146 : S0.1 146 y = lx_cv kd) {z0 z1 : Nat} (h144 : S0.1 144 y = Int32.ofNat z0) (h145 : S0.1 145 y = Int32.ofNat z1) (t0 : mj_t S0 (48 * h) (1501 * h) (1501 * h + 1500) (1501 * h) (1501 * h + 1500) d z0 (tr_sub t 0)) (t1 : mj_t S0 (48 * h) (1501 * h) (1501 * h + 1500) (1501 * h) (1501 * h + 1500) d z1 (tr_sub t 1)) : mm_O B h pg S0 (r + 1) k n mn ma ml (3 * s.2.1) (mk_sg (mk pg r) N (s.1, s.2.1 + 1, s.2.2) t) S := by
  obtain ⟨h2, o2, hev⟩ := hE
  obtain ⟨e2, g1, g2, g3⟩ := hev _ rfl
  have hS1 : of_f (mm_F B 0 0 0 0) S0 (wd_i S 135 76 (Int32.ofNat k)) := of_trans h2.1 (by
    rw [e2]
    exact ⟨fun a b q => (fr_ne (fun w => q (Or.inl ⟨w.1, by omega⟩))).symm, fun a b q => rfl, rfl⟩)
  obtain ⟨n3, n4, n5, n6⟩ := mm_n hX hS1 hy
  have ef := mm_ev1 (y := y) (k := k) (S := wd_i S 135 76 (Int32.ofNat k)) (by omega) g1 (by rw [n3]; exact h143) g2 (by omega)
  rw [← e2, n4, n5, h144, h145] at ef
  have h3 := mm_h_p (x := 1) (v := Int32.ofNat z0) (mm_h_p (x := 1) (v := Int32.ofNat z1) (mm_h_p (x := 2) (v := Int32.ofNat y) h2))
  have o3 : of_f (mm_F B k n mn ma) S (ml_p (k + 2) 1 (Int32.ofNat z0) (ml_p (k + 1) 1 (Int32.ofNat z1) (ml_p k 2 (Int32.ofNat y) S2))) := of_trans (mm_Ew o2 k n mn ma) (of_trans (mm_pw (Nat.le_refl _)) (of_trans (mm_pw (by omega)) (mm_pw (by omega))))
  have a1 : (ml_p (k + 2) 1 (Int32.ofNat z0) (ml_p (k + 1) 1 (Int32.ofNat z1) (ml_p k 2 (Int32.ofNat y) S2))).1 165 (k + 2) = 1 := by rw [ml_165, if_pos rfl]
  have a2 : (ml_p (k + 2) 1 (Int32.ofNat z0) (ml_p (k + 1) 1 (Int32.ofNat z1) (ml_p k 2 (Int32.ofNat y) S2))).1 166 (k + 2) = Int32.ofNat z0 := by rw [ml_166, if_pos rfl]
  have a3 : (ml_p (k + 2) 1 (Int32.ofNat z0) (ml_p (k + 1) 1 (Int32.ofNat z1) (ml_p k 2 (Int32.ofNat y) S2))).1 165 (k + 1) = 1 := by rw [ml_165, if_neg (by omega), ml_165, if_pos rfl]
  have a4 : (ml_p (k + 2) 1 (Int32.ofNat z0) (ml_p (k + 1) 1 (Int32.ofNat z1) (ml_p k 2 (Int32.ofNat y) S2))).1 166 (k + 1) = Int32.ofNat z1 := by rw [ml_166, if_neg (by omega), ml_166, if_pos rfl]
  have a5 : (ml_p (k + 2) 1 (Int32.ofNat z0) (ml_p (k + 1) 1 (Int32.ofNat z1) (ml_p k 2 (Int32.ofNat y) S2))).1 165 k = 2 := by rw [ml_165, if_neg (by omega), ml_165, if_neg (by omega), ml_165, if_pos rfl]
  have a6 : (ml_p (k + 2) 1 (Int32.ofNat z0) (ml_p (k + 1) 1 (Int32.ofNat z1) (ml_p k 2 (Int32.ofNat y) S2))).1 166 k = Int32.ofNat y := by rw [ml_166, if_neg (by omega), ml_166, if_neg (by omega), ml_166, if_pos rfl]
  have hgo := g3 _ ef
  generalize ml_p (k + 2) 1 (Int32.ofNat z0) (ml_p (k + 1) 1 (Int32.ofNat z1) (ml_p k 2 (Int32.ofNat y) S2)) = S3 at *
  refine mm_step hgo o3 ?_
  unfold mk_sg
  refine mm_bind 2 (hS _ (s.1, s.2.1 + 1, s.2.2) (k + 2) n mn ma ml z0 _ d S3 h3 a1 a2 (by show mn ≤ s.2.1 + 1; omega) hma (by omega) (by omega) t0) (by show 3 * s.2.1 + 1 + 2 ≤ 3 * (s.2.1 + 1); omega) (by omega) (Nat.le_refl _) (Nat.le_refl _) (Nat.le_refl _) (fun q S4 hq G => ?_)
  obtain ⟨ma4, h4, i4, j4, r4, o4⟩ := G
  obtain ⟨p1, p2, p3, p4⟩ := mk_gs _ _ _ _ _ hq
  have p1 : s.2.1 + 1 + q.1.2.1 ≤ q.2.2.2.1 := p1
  have nq := mm_nzi p4
  refine mm_bind 2 (hS _ q.2.2 (k + 1) (n + 1) (mn + mm_nz q.1) ma4 (ml + q.1.2.2) z1 _ d S4 h4 (by rw [o4.1 165 (k + 1) (by unfold mm_F; omega)]; exact a3) (by rw [o4.1 166 (k + 1) (by unfold mm_F; omega)]; exact a4) (by omega) (by split at i4 <;> omega) (by omega) (by omega) t1) (by omega) (by omega) (by omega) (by omega) j4 (fun w S5 hw G => ?_)
  obtain ⟨ma5, h5, i5, j5, r5, o5⟩ := G
  obtain ⟨b1, b2, b3, b4⟩ := mk_gs _ _ _ _ _ hw
  have nw := mm_nzi b4
  have h13 := h5.2.2.2.2.2.2.2.2.2.2.2.2.1
  have := mm_sgn (R1 := q.1) (R2 := w.1) (c := 3 * w.2.2.2.1 - 2) (mn := mn) (ma := ma) (ml := ml) (r := r) hX h5 (by omega) (by omega) (by rw [o5.1 165 k (by unfold mm_F; omega), o4.1 165 k (by unfold mm_F; omega)]; exact a5) (by rw [o5.1 166 k (by unfold mm_F; omega), o4.1 166 k (by unfold mm_F; omega)]; exact a6) hy hkd (by rw [(mm_n hX h5.1 hy).2.2.2]; exact h146) (mk_r1 hq) (mm_r_o o5 (Nat.lt_succ_self n) (Nat.le_add_right _ _) j5 r4) r5 p4 b4 rfl (by split at i4 <;> split at i5 <;> omega) (by omega) rfl (by omega) (by omega)
  rw [hkt]
  exact this
theorem mm_if (hX : mm_X B h pg S0) (hS : mm_S B h pg S0 r) (hE : mm_E B h pg S0 N s k n mn ma ml y S S2) (hmn : mn ≤ s.2.1) (hma : ma ≤ mn) (hk : k + 6 * (r + 1) ≤ 3900) (hn : n + 5 * (r + 1) ≤ 3900) (hy : y < 3004) (h143 : S0.1 143 y = 2) {z0 z1 z2 : Nat} (h144 : S0.1 144 y = Int32.ofNat z0) (h145 : S0.1 145 y = Int32.ofNat z1) (h146 : S0.1 146 y = Int32.ofNat z2) (t0 : mj_t S0 (48 * h) (1501 * h) (1501 * h + 1500) (1501 * h) (1501 * h + 1500) d z0 (tr_sub t 0)) (t1 : mj_t S0 (48 * h) (1501 * h) (1501 * h + 1500) (1501 * h) (1501 * h + 1500) d z1 (tr_sub t 1)) (t2 : mj_t S0 (48 * h) (1501 * h) (1501 * h + 1500) (1501 * h) (1501 * h + 1500) d z2 (tr_sub t 2)) : mm_O B h pg S0 (r + 1) k n mn ma ml (3 * s.2.1) (mk_if (mk pg r) N (s.1, s.2.1 + 1, s.2.2) t) S := by
  obtain ⟨h2, o2, hev⟩ := hE
  obtain ⟨e2, g1, g2, g3⟩ := hev _ rfl
  have hS1 : of_f (mm_F B 0 0 0 0) S0 (wd_i S 135 76 (Int32.ofNat k)) := of_trans h2.1 (by
    rw [e2]
    exact ⟨fun a b q => (fr_ne (fun w => q (Or.inl ⟨w.1, by omega⟩))).symm, fun a b q => rfl, rfl⟩)
  obtain ⟨n3, n4, n5, n6⟩ := mm_n hX hS1 hy
  have ef := mm_ev2 (y := y) (k := k) (S := wd_i S 135 76 (Int32.ofNat k)) (by omega) g1 (by rw [n3]; exact h143) g2 (by omega)
  rw [← e2, n4, h144] at ef
  have h3 := mm_h_p (x := 1) (v := Int32.ofNat z0) (mm_h_p (x := 3) (v := Int32.ofNat y) h2)
  have o3 : of_f (mm_F B k n mn ma) S (ml_p (k + 1) 1 (Int32.ofNat z0) (ml_p k 3 (Int32.ofNat y) S2)) := of_trans (mm_Ew o2 k n mn ma) (of_trans (mm_pw (Nat.le_refl _)) (mm_pw (by omega)))
  have a1 : (ml_p (k + 1) 1 (Int32.ofNat z0) (ml_p k 3 (Int32.ofNat y) S2)).1 165 (k + 1) = 1 := by rw [ml_165, if_pos rfl]
  have a2 : (ml_p (k + 1) 1 (Int32.ofNat z0) (ml_p k 3 (Int32.ofNat y) S2)).1 166 (k + 1) = Int32.ofNat z0 := by rw [ml_166, if_pos rfl]
  have a5 : (ml_p (k + 1) 1 (Int32.ofNat z0) (ml_p k 3 (Int32.ofNat y) S2)).1 165 k = 3 := by rw [ml_165, if_neg (by omega), ml_165, if_pos rfl]
  have a6 : (ml_p (k + 1) 1 (Int32.ofNat z0) (ml_p k 3 (Int32.ofNat y) S2)).1 166 k = Int32.ofNat y := by rw [ml_166, if_neg (by omega), ml_166, if_pos rfl]
  have hgo := g3 _ ef
  generalize ml_p (k + 1) 1 (Int32.ofNat z0) (ml_p k 3 (Int32.ofNat y) S2) = S3 at *
  refine mm_step hgo o3 ?_
  unfold mk_if
  refine mm_bind 2 (hS _ (s.1, s.2.1 + 1, s.2.2) (k + 1) n mn ma ml z0 _ d S3 h3 a1 a2 (by show mn ≤ s.2.1 + 1; omega) hma (by omega) (by omega) t0) (by show 3 * s.2.1 + 1 + 2 ≤ 3 * (s.2.1 + 1); omega) (by omega) (Nat.le_refl _) (Nat.le_refl _) (Nat.le_refl _) (fun q S4 hq G => ?_)
  obtain ⟨ma4, h4, i4, j4, r4, o4⟩ := G
  obtain ⟨p1, p2, p3, p4⟩ := mk_gs _ _ _ _ _ hq
  have p1 : s.2.1 + 1 + q.1.2.1 ≤ q.2.2.2.1 := p1
  have nq := mm_nzi p4
  have b5 : S4.1 165 k = 3 := by rw [o4.1 165 k (by unfold mm_F; omega)]; exact a5
  have b6 : S4.1 166 k = Int32.ofNat y := by rw [o4.1 166 k (by unfold mm_F; omega)]; exact a6
  obtain ⟨-, -, m5, m6⟩ := mm_n hX h4.1 hy
  by_cases hq1 : tr_k q.1.1 = 1
  · rw [if_pos hq1]
    have k0 : mm_nz q.1 = 0 := if_pos hq1
    have l0 : q.1.2.2 = 0 := by rw [p4 hq1]
    rw [if_pos hq1] at i4
    rw [k0, l0, i4] at h4
    rcases r4 with ⟨-, c1, c2, -⟩ | ⟨c1, -⟩
    · have hz : (if S4.1 168 n = 0 then S4.1 146 y else S4.1 145 y) = Int32.ofNat (if tr_v q.1.1 = 0 then z2 else z1) := by
        rw [c2, m5, m6, h145, h146]
        split <;> rfl
      obtain ⟨S5, d1, d2, d3, d4, d5⟩ := mm_chs_n hX h4 (by omega) (by omega) b5 b6 hy c1 hz
      refine mm_step d1 d5 (mm_more (Nat.le_succ r) (c := 3 * q.2.2.2.1) (by omega) ?_)
      by_cases hv0 : tr_v q.1.1 = 0
      · rw [if_pos hv0] at d4 ⊢
        exact hS _ q.2.2 k n mn ma ml z2 _ d S5 d2 d3 d4 (by omega) hma (by omega) (by omega) t2
      · rw [if_neg hv0] at d4 ⊢
        exact hS _ q.2.2 k n mn ma ml z1 _ d S5 d2 d3 d4 (by omega) hma (by omega) (by omega) t1
    · exact absurd hq1 c1
  · rw [if_neg hq1]
    have k0 : mm_nz q.1 = q.1.2.1 := if_neg hq1
    rw [if_neg hq1] at i4
    have c1 : S4.1 167 n = 0 := by
      rcases r4 with ⟨c1, -⟩ | ⟨-, c1, -⟩
      · exact absurd c1 hq1
      · exact c1
    obtain ⟨S5, d1, d2, d3, d4, d5, d6, d7, d8, d9⟩ := mm_chs_r hX h4 (by omega) (by omega) b5 b6 hy c1
    have w5 : ∀ n0 mn0 ma0, of_f (mm_F B k n0 mn0 ma0) S4 S5 := fun n0 mn0 ma0 => of_mono (fun a b z => mm_w_F a b (by unfold mm_w; omega)) d9
    refine mm_step d1 (w5 n mn ma) ?_
    rw [m6, h146] at d6
    rw [m5, h145] at d8
    have r4' := mm_r_o (w5 (n + 1) (mn + mm_nz q.1) ma4) (Nat.lt_succ_self n) (Nat.le_refl _) (Nat.le_refl _) r4
    refine mm_bind 1 (hS _ q.2.2 (k + 2) (n + 1) (mn + mm_nz q.1) ma4 (ml + q.1.2.2) z1 _ d S5 d2 d7 d8 (by omega) (by omega) (by omega) (by omega) t1) (by omega) (by omega) (by omega) (by omega) j4 (fun w S6 hw G => ?_)
    obtain ⟨ma6, h6, i6, j6, r6, o6⟩ := G
    obtain ⟨f1, f2, f3, f4⟩ := mk_gs _ _ _ _ _ hw
    have nw := mm_nzi f4
    refine mm_bind 1 (hS _ w.2.2 (k + 1) (n + 2) (mn + mm_nz q.1 + mm_nz w.1) ma6 (ml + q.1.2.2 + w.1.2.2) z2 _ d S6 h6 (by rw [o6.1 165 (k + 1) (by unfold mm_F; omega)]; exact d5) (by rw [o6.1 166 (k + 1) (by unfold mm_F; omega)]; exact d6) (by omega) (by split at i6 <;> omega) (by omega) (by omega) t2) (by omega) (by omega) (by omega) (by omega) (by omega) (fun u S7 hu G => ?_)
    obtain ⟨ma7, h7, i7, j7, r7, o7⟩ := G
    obtain ⟨g1, g2, g3, g4⟩ := mk_gs _ _ _ _ _ hu
    have nu := mm_nzi g4
    have h13 := h7.2.2.2.2.2.2.2.2.2.2.2.2.1
    have fin := mm_chc (R1 := q.1) (R2 := w.1) (R3 := u.1) (c := 3 * u.2.2.2.1 - 1) (mn := mn) (ma := ma) (ml := ml) (r := r) (y := y) hX h7 (by omega) (by omega) (by rw [o7.1 165 k (by unfold mm_F; omega), o6.1 165 k (by unfold mm_F; omega)]; exact d3) (by rw [o7.1 166 k (by unfold mm_F; omega), o6.1 166 k (by unfold mm_F; omega)]; exact d4) (mk_r1 hq) (mm_r_o o7 (show n < n + 2 by omega) (Nat.le_add_right _ _) j7 (mm_r_o o6 (Nat.lt_succ_self n) (Nat.le_add_right _ _) j6 r4')) (mm_r_o o7 (show n + 1 < n + 2 by omega) (Nat.le_add_right _ _) j7 r6) r7 p4 f4 g4 rfl (by split at i6 <;> split at i7 <;> omega) (by omega) rfl (by omega) (by omega)
    exact fin
theorem mm_let (hX : mm_X B h pg S0) (hS : mm_S B h pg S0 r) (hE : mm_E B h pg S0 N s k n mn ma ml y S S2) (hmn : mn ≤ s.2.1) (hma : ma ≤ mn) (hk : k + 6 * (r + 1) ≤ 3900) (hn : n + 5 * (r + 1) ≤ 3900) (hy : y < 3004) (h143 : S0.1 143 y = 3) {z0 z1 : Nat} (h144 : S0.1 144 y = Int32.ofNat z0) (h145 : S0.1 145 y = Int32.ofNat z1) (hv : tr_v t = Int32.ofNat (tr_n t)) (hi : tr_n t < 16) (h146 : S0.1 146 y = tr_v t) (t0 : mj_t S0 (48 * h) (1501 * h) (1501 * h + 1500) (1501 * h) (1501 * h + 1500) d z0 (tr_sub t 0)) (t1 : mj_t S0 (48 * h) (1501 * h) (1501 * h + 1500) (1501 * h) (1501 * h + 1500) d z1 (tr_sub t 1)) : mm_O B h pg S0 (r + 1) k n mn ma ml (3 * s.2.1) (mk_let (mk pg r) N (s.1, s.2.1 + 1, s.2.2) t) S := by
  obtain ⟨h2, o2, hev⟩ := hE
  obtain ⟨e2, g1, g2, g3⟩ := hev _ rfl
  have hS1 : of_f (mm_F B 0 0 0 0) S0 (wd_i S 135 76 (Int32.ofNat k)) := of_trans h2.1 (by
    rw [e2]
    exact ⟨fun a b q => (fr_ne (fun w => q (Or.inl ⟨w.1, by omega⟩))).symm, fun a b q => rfl, rfl⟩)
  obtain ⟨n3, n4, n5, n6⟩ := mm_n hX hS1 hy
  have ef := mm_ev3 (y := y) (k := k) (S := wd_i S 135 76 (Int32.ofNat k)) (by omega) g1 (by rw [n3]; exact h143) g2 (by omega)
  rw [← e2, n4, h144] at ef
  have h3 := mm_h_p (x := 1) (v := Int32.ofNat z0) (mm_h_p (x := 6) (v := Int32.ofNat y) h2)
  have o3 : of_f (mm_F B k n mn ma) S (ml_p (k + 1) 1 (Int32.ofNat z0) (ml_p k 6 (Int32.ofNat y) S2)) := of_trans (mm_Ew o2 k n mn ma) (of_trans (mm_pw (Nat.le_refl _)) (mm_pw (by omega)))
  have a1 : (ml_p (k + 1) 1 (Int32.ofNat z0) (ml_p k 6 (Int32.ofNat y) S2)).1 165 (k + 1) = 1 := by rw [ml_165, if_pos rfl]
  have a2 : (ml_p (k + 1) 1 (Int32.ofNat z0) (ml_p k 6 (Int32.ofNat y) S2)).1 166 (k + 1) = Int32.ofNat z0 := by rw [ml_166, if_pos rfl]
  have a5 : (ml_p (k + 1) 1 (Int32.ofNat z0) (ml_p k 6 (Int32.ofNat y) S2)).1 165 k = 6 := by rw [ml_165, if_neg (by omega), ml_165, if_pos rfl]
  have a6 : (ml_p (k + 1) 1 (Int32.ofNat z0) (ml_p k 6 (Int32.ofNat y) S2)).1 166 k = Int32.ofNat y := by rw [ml_166, if_neg (by omega), ml_166, if_pos rfl]
  have hgo := g3 _ ef
  generalize ml_p (k + 1) 1 (Int32.ofNat z0) (ml_p k 6 (Int32.ofNat y) S2) = S3 at *
  refine mm_step hgo o3 ?_
  unfold mk_let
  refine mm_bind 2 (hS _ (s.1, s.2.1 + 1, s.2.2) (k + 1) n mn ma ml z0 _ d S3 h3 a1 a2 (by show mn ≤ s.2.1 + 1; omega) hma (by omega) (by omega) t0) (by show 3 * s.2.1 + 1 + 2 ≤ 3 * (s.2.1 + 1); omega) (by omega) (Nat.le_refl _) (Nat.le_refl _) (Nat.le_refl _) (fun q S4 hq G => ?_)
  obtain ⟨ma4, h4, i4, j4, r4, o4⟩ := G
  obtain ⟨p1, p2, p3, p4⟩ := mk_gs _ _ _ _ _ hq
  have p1 : s.2.1 + 1 + q.1.2.1 ≤ q.2.2.2.1 := p1
  have nq := mm_nzi p4
  have b5 : S4.1 165 k = 6 := by rw [o4.1 165 k (by unfold mm_F; omega)]; exact a5
  have b6 : S4.1 166 k = Int32.ofNat y := by rw [o4.1 166 k (by unfold mm_F; omega)]; exact a6
  obtain ⟨-, -, m5, m6⟩ := mm_n hX h4.1 hy
  have m6 : S4.1 146 y = Int32.ofNat (tr_n t) := by rw [m6, h146]; exact hv
  by_cases hq1 : tr_k q.1.1 = 1
  · rw [if_pos hq1]
    have k0 : mm_nz q.1 = 0 := if_pos hq1
    have l0 : q.1.2.2 = 0 := by rw [p4 hq1]
    rw [if_pos hq1] at i4
    rw [k0, l0, i4] at h4
    rcases r4 with ⟨-, c1, c2, -⟩ | ⟨c1, -⟩
    · obtain ⟨S5, d1, d2, d3, d4, d5⟩ := mm_ltg_n hX h4 (by omega) (by omega) b5 b6 hy hi m6 c1 c2
      rw [m5, h145] at d4
      refine mm_step d1 d5 (mm_more (Nat.le_succ r) (c := 3 * q.2.2.2.1) (by omega) ?_)
      exact hS _ q.2.2 k n mn ma ml z1 _ d S5 d2 d3 d4 (by omega) hma (by omega) (by omega) t1
    · exact absurd hq1 c1
  · rw [if_neg hq1]
    have k0 : mm_nz q.1 = q.1.2.1 := if_neg hq1
    rw [if_neg hq1] at i4
    have c1 : S4.1 167 n = 0 := by
      rcases r4 with ⟨c1, -⟩ | ⟨-, c1, -⟩
      · exact absurd c1 hq1
      · exact c1
    obtain ⟨S5, d1, d2, d3, d4, d5, d6, d7⟩ := mm_ltg_r hX h4 (by omega) (by omega) b5 b6 hy hi m6 c1
    rw [m5, h145] at d6
    refine mm_step d1 (of_mono (mm_F_le (Nat.le_refl _) (Nat.le_succ n) (Nat.le_refl _) (Nat.le_refl _)) (d7 mn ma)) ?_
    have r4' := mm_r_o (d7 (mn + mm_nz q.1) ma4) (Nat.lt_succ_self n) (Nat.le_refl _) (Nat.le_refl _) r4
    rw [hv]
    refine mm_bind 1 (hS _ q.2.2 (k + 1) (n + 1) (mn + mm_nz q.1) ma4 (ml + q.1.2.2) z1 _ d S5 d2 d5 d6 (by omega) (by omega) (by omega) (by omega) t1) (by omega) (by omega) (by omega) (by omega) j4 (fun w S6 hw G => ?_)
    obtain ⟨ma6, h6, i6, j6, r6, o6⟩ := G
    obtain ⟨f1, f2, f3, f4⟩ := mk_gs _ _ _ _ _ hw
    have nw := mm_nzi f4
    have h13 := h6.2.2.2.2.2.2.2.2.2.2.2.2.1
    have m6' : S6.1 146 y = Int32.ofNat (tr_n t) := by rw [(mm_n hX h6.1 hy).2.2.2, h146]; exact hv
    have fin := mm_lts (R1 := q.1) (R2 := w.1) (c := 3 * w.2.2.2.1 - 1) (mn := mn) (ma := ma) (ml := ml) (r := r) hX h6 (by omega) (by omega) (by rw [o6.1 165 k (by unfold mm_F; omega)]; exact d3) (by rw [o6.1 166 k (by unfold mm_F; omega)]; exact d4) hy hi m6' (mk_r1 hq) (mm_r_o o6 (Nat.lt_succ_self n) (Nat.le_add_right _ _) j6 r4') r6 p4 f4 rfl (by split at i6 <;> omega) (by omega) rfl (by omega) (by omega)
    exact fin
end Mmb
end
