/-! The reference's maker: calls. -/
theorem mm_alln {as : List mk_R} (h : ∀ i, i < as.length → mk_nb as i = true) : ∀ R, R ∈ as → tr_k R.1 = 1 := fun R hR => by
  obtain ⟨i, hi, e⟩ := List.getElem_of_mem hR
  have := h i hi
  unfold mk_nb mk_at at this
  rw [List.getD_eq_getElem?_getD, List.getElem?_eq_getElem hi, e] at this
  exact of_decide_eq_true this
theorem mm_all0 : ∀ as : List mk_R, (∀ R, R ∈ as → tr_k R.1 = 1) → (∀ R, R ∈ as → mk_nn R) → mm_nzs as = 0 ∧ mm_is as = as.length ∧ mk_lt as = 0 := by
  intro as
  induction as with
  | nil => intro _ _; exact ⟨rfl, rfl, rfl⟩
  | cons a l ih =>
    intro h1 h2
    obtain ⟨a1, a2, a3⟩ := ih (fun R hR => h1 R (List.mem_cons_of_mem _ hR)) (fun R hR => h2 R (List.mem_cons_of_mem _ hR))
    have e := h1 a List.mem_cons_self
    have k1 : mm_nz a = 0 := if_pos e
    have k2 : mm_i a = 1 := if_pos e
    have k3 : a.2.2 = 0 := by rw [h2 a List.mem_cons_self e]
    exact ⟨by show mm_nz a + mm_nzs l = 0; omega, by show mm_i a + mm_is l = l.length + 1; omega, by show a.2.2 + mk_lt l = 0; omega⟩
theorem mk_kp_lt : ∀ l : List mk_R, (∀ R, R ∈ l → mk_nn R) → mk_lt (mk_kp l) = mk_lt l := by
  intro l
  induction l with
  | nil => intro _; rfl
  | cons a l ih =>
    intro h
    have ih := ih (fun R hR => h R (List.mem_cons_of_mem _ hR))
    by_cases e : tr_k a.1 = 1
    · have ek : mk_kp (a :: l) = mk_kp l := List.filter_cons_of_neg (by rw [decide_eq_true_iff]; exact fun q => q e)
      have k3 : a.2.2 = 0 := by rw [h a List.mem_cons_self e]
      rw [ek, ih]
      show _ = a.2.2 + mk_lt l
      omega
    · have ek : mk_kp (a :: l) = a :: mk_kp l := List.filter_cons_of_pos (decide_eq_true e)
      rw [ek]
      show a.2.2 + mk_lt (mk_kp l) = a.2.2 + mk_lt l
      omega
section Mm9
variable {B h : Nat} {pg : pg_T} {S0 S S' S1 S2 S3 S9 : wd_S} {N N' : mk_N} {s s' : mk_S} {k n mn ma ml k' n' mn' ma' ml' mn1 ma1 ml1 y z d r c p i f m a K : Nat} {t : tr_T} {x v : Int32} {R : mk_R} {kn : Nat → Int32} {as : List mk_R}
/-- a call of version K is put up -/
theorem mm_212 (hX : mm_X B h pg S0) (hh : mm_h B h pg S0 N s k n mn1 ma1 ml1 S) (hn : n + 4 ≤ 4000) (ha : as.length ≤ 4) (hm : m < 16) (hr : 1 ≤ r ∨ as.length = 0) (b : Bool) (rs : ∀ j, (hj : j < as.length) → mm_r B mn1 ma1 r (n + j) as[j] S ∧ mk_bt m j = (b && decide (tr_k as[j].1 = 1))) (hb : mn1 + mm_is (mm_kp b as) + 1 ≤ 1000) (hba : ma1 + (mm_kp b as).length ≤ 1000) : ∃ S', fn_Mo_onCalled_212 (Int32.ofNat as.length) (Int32.ofNat n) (Int32.ofNat m) (Int32.ofNat (80 * B + K)) S = some S' ∧ mm_h B h pg S0 N s k (n + 1) (mn1 + mm_is (mm_kp b as) + 1) (ma1 + (mm_kp b as).length) ml1 S' ∧ S'.1 167 n = 0 ∧ S'.1 168 n = Int32.ofNat (3004 + 6002 * B + (mn1 + mm_is (mm_kp b as))) ∧ mm_t B (mn1 + mm_is (mm_kp b as) + 1) (ma1 + (mm_kp b as).length) (r + 1) (3004 + 6002 * B + (mn1 + mm_is (mm_kp b as))) (mk_cl K (mm_kp b as)).1 S' ∧ of_f (mm_F B k n mn1 ma1) S S' := by
  have hB := hX.1
  obtain ⟨S3, zs, f3, m3, h3, z3, o3, -⟩ := mc_224 (vv := Int32.ofNat (80 * B + K)) hX hn ha hm hr b as 0 mn1 [] (999999 - as.length) S (Nat.zero_add _) (Nat.le_refl _) hh (fun j hj => by rw [Nat.zero_add]; exact rs j hj) (fun j hj => absurd hj (Nat.not_lt_zero _)) hb
  rw [show 999999 - as.length + 1 + as.length = wd_F by rw [show wd_F = 1000000 from rfl]; omega] at f3
  have f3 : fn_Mo_onCalled_212 (Int32.ofNat as.length) (Int32.ofNat n) (Int32.ofNat m) (Int32.ofNat (80 * B + K)) S = fn_Mo_onCalled_224 (999999 - as.length + 1) (Int32.ofNat as.length) (Int32.ofNat n) (Int32.ofNat m) (Int32.ofNat (80 * B + K)) (Int32.ofNat zs.length) (Int32.ofNat as.length) S3 := f3
  have m3 : zs.map (fun p => p.2) = mm_kp b as := m3
  generalize hqs : mm_kp b as = qs at *
  have hzl : zs.length = qs.length := by rw [← m3, List.length_map]
  have hq4 : qs.length ≤ 4 := by
    have : (mm_kp b as).length ≤ as.length := by
      cases b with
      | false => exact Nat.le_refl _
      | true => exact List.length_filter_le _ _
    rw [hqs] at this
    omega
  generalize hmn2 : mn1 + mm_is qs = mn2 at *
  rw [f3, fn_Mo_onCalled_224, if_neg Int32.lt_irrefl]
  simp only [wd_b]
  rw [mm_cfg hX h3 (by omega), wd_c_s, if_neg (ms_in (show 3004 + 6002 * B + mn2 < 15010 by omega) (by decide)), if_neg (ms_in (show 3004 + 6002 * B + mn2 < 15010 by omega) (by decide)), if_neg (ms_in (show 3004 + 6002 * B + mn2 < 15010 by omega) (by decide)), im_t (show 3004 + 6002 * B + mn2 < 2147483648 by omega), fr_ne (show ¬(135 = 143 ∧ _) by omega), fr_ne (show ¬(135 = 135 ∧ 67 = 66) by omega), h3.2.2.1, hzl]
  obtain ⟨h4, o4, g3, g4, g5, g6⟩ := mm_mk hX h3 (by omega) (κ := 8) (a := Int32.ofNat (3004 + 6002 * B + ma1)) (b := Int32.ofNat qs.length) (e := Int32.ofNat (80 * B + K))
  generalize wd_i (wd_i (wd_i (wd_i (wd_i S3 135 66 (Int32.ofNat (mn2 + 1))) 143 (3004 + 6002 * B + mn2) 8) 144 (3004 + 6002 * B + mn2) (Int32.ofNat (3004 + 6002 * B + ma1))) 145 (3004 + 6002 * B + mn2) (Int32.ofNat qs.length)) 146 (3004 + 6002 * B + mn2) (Int32.ofNat (80 * B + K)) = S4 at *
  obtain ⟨S5, f5, o5, e5, l5⟩ := mc_302 (S := S4) (w := Int32.ofNat (3004 + 6002 * B + mn2)) hB hq4 (show ma1 + 4 ≤ 2000 by omega) qs.length 0 (999999 - qs.length) S4 (Nat.zero_add _) of_refl h4.2.2.1 (fun i hi => absurd hi (Nat.not_lt_zero _))
  rw [show 999999 - qs.length + 1 + qs.length = wd_F by rw [show wd_F = 1000000 from rfl]; omega] at f5
  have f5 : fn_Mo_onCalled_302 wd_F (Int32.ofNat qs.length) (Int32.ofNat (3004 + 6002 * B + mn2)) 0 S4 = fn_Mo_gives 0 (Int32.ofNat (3004 + 6002 * B + mn2)) S5 := f5
  have h5 : mm_h B h pg S0 N s k n (mn2 + 1) (ma1 + qs.length) ml1 S5 := by
    obtain ⟨a1, a2, a3, a4, a5, a6, a7, a8, a9, a10, a11, a12, a13⟩ := id h4
    exact mm_hw (k0 := 0) (n0 := 0) (mn0 := 0) (ma0 := 0) h4 (of_mono (fun a b z => by unfold mm_w; omega) o5) (by rw [o5.1 135 66 (by omega)]; exact a2) e5 (by rw [o5.1 135 70 (by omega)]; exact a6) (by rw [o5.1 135 76 (by omega)]; exact a9) (by rw [o5.1 135 79 (by omega)]; exact a10) a11 hba
  rw [f5, mm_gives h5.2.2.2.2.2.2.2.2.2.1 (by omega) (Or.inl rfl)]
  have og := mg_o (n := n) (x := 0) (v := Int32.ofNat (3004 + 6002 * B + mn2)) (S := S5)
  have w4 : of_f (mm_F B k n mn2 ma1) S3 S4 := mm_nw hX (by omega) o4 (Nat.le_refl _)
  have w5 : of_f (mm_F B k n (mn2 + 1) ma1) S4 S5 := of_mono (fun a b z => mm_w_F a b (by unfold mm_w; omega)) o5
  have w6 : of_f (mm_F B k n (mn2 + 1) (ma1 + qs.length)) S5 (mg_p n 0 (Int32.ofNat (3004 + 6002 * B + mn2)) S5) := of_mono (fun a b z => mm_w_F a b (by unfold mm_w; omega)) og
  refine ⟨_, rfl, mm_h_g h5, mg_167, mg_168, mm_t_o w6 (Nat.le_refl _) (Nat.le_refl _) ⟨by omega, by omega, Or.inr (Or.inr (Or.inr (Or.inr (Or.inl ⟨rfl, by rw [o5.1 143 _ (by omega)]; exact g3, by rw [o5.1 145 _ (by omega)]; exact g5, hq4, ⟨K, rfl, by rw [o5.1 146 _ (by omega)]; exact g6⟩, 3004 + 6002 * B + ma1, by rw [o5.1 144 _ (by omega)]; exact g4, by omega, by show 3004 + 6002 * B + ma1 + qs.length ≤ _; omega, fun j hj => ?_⟩))))⟩, ?_⟩
  · have hj : j < qs.length := hj
    have hj2 : j < zs.length := by omega
    obtain ⟨e1, e2⟩ := z3 j hj2
    refine ⟨zs[j].1, ?_, ?_⟩
    · rw [show 3004 + 6002 * B + ma1 + j = 3004 + 6002 * B + (ma1 + j) by omega, l5 j hj, o4.1 172 j (by omega)]
      exact e1
    · have et : tr_sub (mk_cl K qs).1 j = zs[j].2.1 := by
        show tr_ls (qs.map (fun a => a.1)) j = _
        unfold tr_ls
        rw [← m3, List.getD_eq_getElem?_getD, List.getElem?_map, List.getElem?_map, List.getElem?_eq_getElem hj2]
        rfl
      rw [et]
      exact mm_t_o w5 (Nat.le_refl _) (Nat.le_add_right _ _) (mm_t_o w4 (Nat.le_succ _) (Nat.le_refl _) e2)
  · exact of_trans o3 (of_trans (of_mono (mm_F_le (Nat.le_refl _) (Nat.le_refl _) (by omega) (Nat.le_refl _)) w4) (of_trans (of_mono (mm_F_le (Nat.le_refl _) (Nat.le_refl _) (by omega) (Nat.le_refl _)) w5) (of_mono (mm_F_le (Nat.le_refl _) (Nat.le_refl _) (by omega) (Nat.le_add_right _ _)) w6)))
/-- versions are more -/
theorem mm_hv (hh : mm_h B h pg S0 N s k n mn ma ml S) {vs : List mk_V} (ho : of_f (fun a b => (a = 135 ∧ b = 65) ∨ ((a = 159 ∨ a = 160) ∧ 80 * B ≤ b ∧ b < 80 * B + 80) ∨ (a = 161 ∧ 320 * B ≤ b ∧ b < 320 * B + 320)) S S') (hv : mm_v B h pg vs S') : mm_h B h pg S0 N (vs, s.2) k n mn ma ml S' ∧ ∀ k0 n0 mn0 ma0, of_f (mm_F B k0 n0 mn0 ma0) S S' := by
  have w : ∀ k0 n0 mn0 ma0 a b, ((a = 135 ∧ b = 65) ∨ ((a = 159 ∨ a = 160) ∧ 80 * B ≤ b ∧ b < 80 * B + 80) ∨ (a = 161 ∧ 320 * B ≤ b ∧ b < 320 * B + 320)) → mm_F B k0 n0 mn0 ma0 a b := fun k0 n0 mn0 ma0 a b q => by
    rcases q with q | q | q
    · exact Or.inl ⟨q.1, by omega⟩
    · exact Or.inr (Or.inr (Or.inr (Or.inr (Or.inr (Or.inr (Or.inr (Or.inl q)))))))
    · exact Or.inr (Or.inr (Or.inr (Or.inr (Or.inr (Or.inr (Or.inr (Or.inr (Or.inl q))))))))
  obtain ⟨a1, a2, a3, a4, a5, a6, a7, a8, a9, a10, a11, a12, a13, a14, a15⟩ := hh
  have e : ∀ b, b ≠ 65 → S'.1 135 b = S.1 135 b := fun b hb => ho.1 135 b (by omega)
  refine ⟨⟨of_trans a1 (of_mono (w 0 0 0 0) ho), by rw [e 66 (by decide)]; exact a2, by rw [e 67 (by decide)]; exact a3, by rw [e 68 (by decide)]; exact a4, by rw [e 69 (by decide)]; exact a5, by rw [e 70 (by decide)]; exact a6, by rw [e 71 (by decide)]; exact a7, by rw [e 73 (by decide)]; exact a8, by rw [e 76 (by decide)]; exact a9, by rw [e 79 (by decide)]; exact a10, a11, a12, a13, fun i q hi => ?_, hv⟩, fun k0 n0 mn0 ma0 => of_mono (w k0 n0 mn0 ma0) ho⟩
  obtain ⟨b1, b2, b3, b4⟩ := a14 i q hi
  exact ⟨b1, by rw [ho.1 169 i (by omega)]; exact b2, by rw [ho.1 170 i (by omega)]; exact b3, b4⟩
/-- a call that stays -/
theorem mm_174 (hX : mm_X B h pg S0) (hh : mm_h B h pg S0 N s k n mn1 ma1 ml1 S) (hn : n + 4 ≤ 4000) (ha : as.length ≤ 4) (hr : 1 ≤ r ∨ as.length = 0) (hy : y < 3004) (hf : f < pg.length) (h146 : S.1 146 y = Int32.ofNat (48 * h + f)) (hl : as.length = pg_n pg f) (rs : ∀ j, (hj : j < as.length) → mm_r B mn1 ma1 r (n + j) as[j] S) (nn : ∀ R, R ∈ as → mk_nn R) (hkn : ∀ j, j < as.length → mk_nb as j = true → S.1 171 j = mk_kn as j) (hmn : mn1 = mn + mm_nzs as) (hma : ma1 + as.length ≤ mm_nzs as + ma + mm_is as) (hma0 : ma ≤ ma1) (hml : ml1 = ml + mk_lt as) (hb : mn + 1 + mk_sz as ≤ 1000) (hmam : ma ≤ mn) (hS9 : of_f (mm_F B k n mn ma) S9 S) (hg : ∀ S', fn_Mo_onCalled_174 (Int32.ofNat y) (Int32.ofNat as.length) (Int32.ofNat n) (Int32.ofNat (mk_ma as)) S = some S' → mm_go 1 S9 S') (hc : c + 1 ≤ 3 * s.2.1) : mm_O B h pg S0 (r + 1) k n mn ma ml c (.ok ((mk_go f as s).1, N, (mk_go f as s).2)) S9 := by
  have hB := hX.1
  have hh1 := hX.2.1
  have hpl := hX.2.2.2.2.1
  have hpn := hX.2.2.2.2.2
  have h15 := hh.2.2.2.2.2.2.2.2.2.2.2.2.2.2
  have hlv := mk_ok_len h15.2.1
  have hm2 : mk_ma as < 2 ^ pg_n pg f := by
    unfold mk_ma
    rw [hl]
    exact mk_mk_lt _ _
  have hp16 : 2 ^ pg_n pg f ≤ 2 ^ 4 := Nat.pow_le_pow_right (by decide) (hpn _)
  have hm16 : mk_ma as < 16 := by omega
  have hk4 : ∀ i, i < 4 → mk_bt (mk_ma as) i = true → S.1 171 i = mk_kn as i := fun i _ hb => by
    unfold mk_ma at hb
    rw [mk_mk_bt, Bool.and_eq_true] at hb
    exact hkn i (of_decide_eq_true hb.1) hb.2
  have hk0 : ∀ i, i < 4 → mk_bt 0 i = true → S.1 171 i = mk_kn as i := fun i _ hb => by rw [mk_bt_0] at hb; cases hb
  have hneg : ∀ k : Nat, k < 1000 → ¬Int32.ofNat k = -1 := fun k hk q => im_neg (n := k) (by omega) (by rw [q]; decide)
  obtain ⟨d1, d2, d3⟩ := mk_ld_ok (as := as) (kn := mk_kn as) h15.2.1 hf hm2
  have eg : mk_go f as s = (mk_cl (mk_ld f (mk_ma as) (mk_kn as) as s.1).1 (mk_ld f (mk_ma as) (mk_kn as) as s.1).2.1, (mk_ld f (mk_ma as) (mk_kn as) as s.1).2.2, s.2) := rfl
  rw [eg]
  clear eg
  have z0 := mm_szs as nn
  have zk := mm_kp_nz as
  have zk2 := mm_szs (mk_kp as) (fun R hR => nn R (List.mem_filter.mp hR).1)
  have zi := mm_is_le as
  have bits1 : ∀ j, (hj : j < as.length) → mk_bt (mk_ma as) j = (true && decide (tr_k as[j].1 = 1)) := fun j hj => by
    unfold mk_ma
    rw [mk_mk_bt, decide_eq_true hj, Bool.true_and, Bool.true_and]
    unfold mk_nb mk_at
    rw [List.getD_eq_getElem?_getD, List.getElem?_eq_getElem hj]
    rfl
  /- with the version told, the call is put up -/
  have hput : ∀ (b : Bool) (m K : Nat) (vs : List mk_V) (S1 : wd_S), m < 16 → (∀ j, (hj : j < as.length) → mk_bt m j = (b && decide (tr_k as[j].1 = 1))) → mm_h B h pg S0 N (vs, s.2) k n mn1 ma1 ml1 S1 → (∀ k0 n0 mn0 ma0, of_f (mm_F B k0 n0 mn0 ma0) S S1) → (∀ S', fn_Mo_onCalled_212 (Int32.ofNat as.length) (Int32.ofNat n) (Int32.ofNat m) (Int32.ofNat (80 * B + K)) S1 = some S' → mm_go 1 S9 S') → mm_O B h pg S0 (r + 1) k n mn ma ml c (.ok (mk_cl K (mm_kp b as), N, vs, s.2)) S9 := fun b m K vs S1 g1 g2 g3 g4 g5 => by
    have hq : mm_nzs (mm_kp b as) = mm_nzs as ∧ mm_nzs (mm_kp b as) + mm_is (mm_kp b as) = mk_sz (mm_kp b as) ∧ (mm_kp b as).length + mm_is as = as.length + mm_is (mm_kp b as) ∧ mk_sz (mm_kp b as) ≤ mk_sz as ∧ mk_lt (mm_kp b as) = mk_lt as := by
      cases b with
      | false => exact ⟨rfl, z0, rfl, Nat.le_refl _, rfl⟩
      | true => exact ⟨zk.1, zk2, by show (mk_kp as).length + mm_is as = as.length + mm_is (mk_kp as); omega, mk_kp_sz as, mk_kp_lt as nn⟩
    obtain ⟨q1, q2, q3, q4, q5⟩ := hq
    obtain ⟨S5, f5, h5, e1, e2, t5, o5⟩ := mm_212 (K := K) hX g3 hn ha g1 hr b (fun j hj => ⟨mm_r_o (g4 0 4000 mn1 ma1) (by omega) (Nat.le_refl _) (Nat.le_refl _) (rs j hj), g2 j hj⟩) (by omega) (by omega)
    refine mm_close h5 (show ¬(5 : Int32) = 1 by decide) ?_ ?_ ?_ ?_ e1 e2 t5 (of_trans hS9 (of_trans (g4 k n mn ma) (of_mono (mm_F_le (Nat.le_refl _) (Nat.le_refl _) (by omega) hma0) o5))) (g5 S5 f5) hc
    · show _ = mn + (1 + mk_sz (mm_kp b as))
      omega
    · show _ ≤ 1 + mk_sz (mm_kp b as) + ma
      omega
    · omega
    · show ml1 = ml + mk_lt (mm_kp b as)
      rw [q5]; exact hml
  have hX64 := mm_64 hX hh.1
  unfold fn_Mo_onCalled_174 at hg
  rw [if_neg (ms_in (show y < 15010 by omega) (by decide)), im_t (show y < 2147483648 by omega), h146, mv_of hB hh1 hX64 hm16 (by omega) h15 hpl hpn hk4] at hg
  unfold mk_ld at d1 d2 d3 ⊢
  cases e1 : mk_fd f (mk_ma as) (mk_kn as) s.1 0 with
  | some j =>
    obtain ⟨-, k1, -⟩ := mk_fd_lt _ _ _ e1
    rw [e1] at hg
    dsimp only at hg ⊢
    rw [wd_c_s, if_neg (hneg _ (by omega))] at hg
    exact hput true (mk_ma as) j s.1 S hm16 bits1 hh (fun _ _ _ _ => of_refl) hg
  | none =>
    rw [e1] at d1 d2 d3 hg
    dsimp only at d1 d2 d3 hg ⊢
    unfold mv_tl at hg
    rw [if_pos rfl, h15.1] at hg
    by_cases hlt : s.1.length < 30
    · rw [if_pos hlt] at d1 d2 d3 ⊢
      rw [if_pos (show Int32.ofNat s.1.length < 30 from (im_lt (m := s.1.length) (n := 30) (by omega) (by omega)).mpr hlt)] at hg
      obtain ⟨S2, f2, o2, v2⟩ := mv_add (f := f) hB h15 hpl hpn d1 hk4
      rw [f2, wd_c_s, if_neg (hneg _ (by omega))] at hg
      obtain ⟨h2, w2⟩ := mm_hv hh o2 v2
      exact hput true (mk_ma as) s.1.length _ S2 hm16 bits1 h2 w2 hg
    · rw [if_neg hlt] at d1 d2 d3 ⊢
      rw [if_neg (show ¬Int32.ofNat s.1.length < 30 from fun q => hlt ((im_lt (m := s.1.length) (n := 30) (by omega) (by omega)).mp q)), wd_c_s, if_pos rfl, if_neg (ms_iy (show y < 15010 by omega) (by decide)), h146, show (0 : Int32) = Int32.ofNat 0 from rfl, mv_of hB hh1 hX64 (m := 0) (by decide) (by omega) h15 hpl hpn hk0] at hg
      cases e2 : mk_fd f 0 (mk_kn as) s.1 0 with
      | some j =>
        obtain ⟨-, k1, -⟩ := mk_fd_lt _ _ _ e2
        rw [e2] at hg
        dsimp only at hg ⊢
        rw [wd_c_s] at hg
        exact hput false 0 j s.1 S (by decide) (fun j _ => mk_bt_0 j) hh (fun _ _ _ _ => of_refl) hg
      | none =>
        rw [e2] at d1 d2 d3 hg
        dsimp only at d1 d2 d3 hg ⊢
        unfold mv_tl at hg
        rw [if_neg (show ¬(1 : Int32) = 0 by decide)] at hg
        obtain ⟨S2, f2, o2, v2⟩ := mv_add (f := f) (m := 0) hB h15 hpl hpn d1 hk0
        rw [f2, wd_c_s] at hg
        obtain ⟨h2, w2⟩ := mm_hv hh o2 v2
        exact hput false 0 s.1.length _ S2 (by decide) (fun j _ => mk_bt_0 j) h2 w2 hg
end Mm9
