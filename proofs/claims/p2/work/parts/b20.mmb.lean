/-! The reference's maker: what becomes of any EXPRESSION. -/
section Mmb
variable {B h : Nat} {pg : pg_T} {S0 S S' S1 S2 S3 S9 : wd_S} {N N' : mk_N} {s s' : mk_S} {k n mn ma ml k' n' mn' ma' ml' mn1 ma1 ml1 y z d r c p i f m a K : Nat} {t : tr_T} {x v : Int32} {R : mk_R} {kn : Nat → Int32} {as : List mk_R}
theorem mk_r1 {q : mk_O} (hq : mk pg r N s t = .ok q) : 1 ≤ r := by
  cases r with
  | zero => cases hq
  | succ r => omega
/-- an EXPRESSION that is begun: the task is taken, one more is gone through -/
def mm_E (B h : Nat) (pg : pg_T) (S0 : wd_S) (N : mk_N) (s : mk_S) (k n mn ma ml y : Nat) (S S2 : wd_S) : Prop := mm_h B h pg S0 N (s.1, s.2.1 + 1, s.2.2) k n mn ma ml S2 ∧ of_f (fun a b => a = 135 ∧ (b = 71 ∨ b = 76)) S S2 ∧ ∀ S1, S1 = wd_i S 135 76 (Int32.ofNat k) → S2 = wd_i S1 135 71 (S1.1 135 71 + 1) ∧ ¬S1.1 135 71 = 1000 ∧ S1.1 135 76 = Int32.ofNat k ∧ ∀ S', fn_Mo_onEv (Int32.ofNat y) S1 = some S' → mm_go 1 S S'
theorem mm_beg (hX : mm_X B h pg S0) (hh : mm_h B h pg S0 N s (k + 1) n mn ma ml S) (hk : k < 4000) (h165 : S.1 165 k = 1) (h166 : S.1 166 k = Int32.ofNat y) (hg : ¬1000 ≤ s.2.1) : ∃ S2, mm_E B h pg S0 N s k n mn ma ml y S S2 := by
  have h1 := mm_pop_h hh
  have h2 := mm_up hX h1 hg
  have e71 : (wd_i S 135 76 (Int32.ofNat k)).1 135 71 = Int32.ofNat s.2.1 := h1.2.2.2.2.2.2.1
  refine ⟨_, h2, of_i (by omega) (of_i (by omega) of_refl), fun S1 e => ?_⟩
  subst e
  refine ⟨by rw [e71, im_s], mm_ev0 hg e71, fr_eq, fun S' q => mm_pop hh hk (by rw [h165, h166, mm_mk1]; exact q)⟩
theorem mm_Ew (ho : of_f (fun a b => a = 135 ∧ (b = 71 ∨ b = 76)) S S2) : ∀ k0 n0 mn0 ma0, of_f (mm_F B k0 n0 mn0 ma0) S S2 := fun k0 n0 mn0 ma0 => of_mono (fun a b q => Or.inl ⟨q.1, by omega⟩) ho
theorem mm_pw {k0 n0 mn0 ma0 : Nat} (hk : k0 ≤ k) : of_f (mm_F B k0 n0 mn0 ma0) S (ml_p k x v S) := of_mono (fun a b z => mm_w_F a b (by unfold mm_w; omega)) ml_o
/-- the text's node, as S has it -/
theorem mm_n (hX : mm_X B h pg S0) (hh : of_f (mm_F B 0 0 0 0) S0 S) (hy : y < 3004) : S.1 143 y = S0.1 143 y ∧ S.1 144 y = S0.1 144 y ∧ S.1 145 y = S0.1 145 y ∧ S.1 146 y = S0.1 146 y := ⟨hh.1 _ _ (by unfold mm_F; omega), hh.1 _ _ (by unfold mm_F; omega), hh.1 _ _ (by unfold mm_F; omega), hh.1 _ _ (by unfold mm_F; omega)⟩
theorem mm_a9 (hX : mm_X B h pg S0) (hh : of_f (mm_F B 0 0 0 0) S0 S) (hy : y < 3004) : S.1 149 y = S0.1 149 y := hh.1 _ _ (by unfold mm_F; omega)
theorem mm_sign (hX : mm_X B h pg S0) (hS : mm_S B h pg S0 r) (hE : mm_E B h pg S0 N s k n mn ma ml y S S2) (hmn : mn ≤ s.2.1) (hma : ma ≤ mn) (hk : k + 6 * (r + 1) ≤ 3900) (hn : n + 5 * (r + 1) ≤ 3900) (hy : y < 3004) {kd : Int32} (hkd : kd = 6 ∨ kd = 7 ∨ kd = 8 ∨ kd = 9 ∨ kd = 10) (hkt : tr_k t = kd) (h143 : S0.1 143 y = 1) (h146 : S0.1 146 y = lx_cv kd) {z0 z1 : Nat} (h144 : S0.1 144 y = Int32.ofNat z0) (h145 : S0.1 145 y = Int32.ofNat z1) (t0 : mj_t S0 (48 * h) (1501 * h) (1501 * h + 1500) (1501 * h) (1501 * h + 1500) d z0 (tr_sub t 0)) (t1 : mj_t S0 (48 * h) (1501 * h) (1501 * h + 1500) (1501 * h) (1501 * h + 1500) d z1 (tr_sub t 1)) : mm_O B h pg S0 (r + 1) k n mn ma ml (3 * s.2.1) (mk_sg (mk pg r) N (s.1, s.2.1 + 1, s.2.2) t) S := by
  obtain ⟨h2, o2, hev⟩ := hE
  obtain ⟨e2, g1, g2, g3⟩ := hev _ rfl
  have hS1 : of_f (mm_F B 0 0 0 0) S0 (wd_i S 135 76 (Int32.ofNat k)) := of_trans h2.1 (by
    rw [e2]
    exact ⟨fun a b q => (fr_ne (fun w => q (Or.inl ⟨w.1, by omega⟩))).symm, fun a b q => rfl, rfl⟩)
  obtain ⟨n3, n4, n5, n6⟩ := mm_n hX hS1 hy
  have ef := mm_ev1 (y := y) (k := k) (S := wd_i S 135 76 (Int32.ofNat k)) (by omega) g1 (by rw [n3]; exact h143) g2 (by omega)
  rw [← e2, n4, n5, h144, h145] at ef
  have h3 := mm_h_p (x := 1) (v := Int32.ofNat z0) (mm_h_p (x := 1) (v := Int32.ofNat z1) (mm_h_p (x := 2) (v := Int32.ofNat y) h2))
  have o3 : of_f (mm_F B k n mn ma) S (ml_p (k + 2) 1 (Int32.ofNat z0) (ml_p (k + 1) 1 (Int32.ofNat z1) (ml_p k 2 (Int32.ofNat y) S2))) := of_trans (mm_Ew o2 k n mn ma) (of_trans (mm_pw (Nat.le_refl _)) (of_trans (mm_pw (by omega)) (mm_pw (by omega))))
  have a1 : (ml_p (k + 2) 1 (Int32.ofNat z0) (ml_p (k + 1) 1 (Int32.ofNat z1) (ml_p k 2 (Int32.ofNat y) S2))).1 165 (k + 2) = 1 := by rw [ml_165, if_pos rfl]
  have a2 : (ml_p (k + 2) 1 (Int32.ofNat z0) (ml_p (k + 1) 1 (Int32.ofNat z1) (ml_p k 2 (Int32.ofNat y) S2))).1 166 (k + 2) = Int32.ofNat z0 := by rw [ml_166, if_pos rfl]
  have a3 : (ml_p (k + 2) 1 (Int32.ofNat z0) (ml_p (k + 1) 1 (Int32.ofNat z1) (ml_p k 2 (Int32.ofNat y) S2))).1 165 (k + 1) = 1 := by rw [ml_165, if_neg (by omega), ml_165, if_pos rfl]
  have a4 : (ml_p (k + 2) 1 (Int32.ofNat z0) (ml_p (k + 1) 1 (Int32.ofNat z1) (ml_p k 2 (Int32.ofNat y) S2))).1 166 (k + 1) = Int32.ofNat z1 := by rw [ml_166, if_neg (by omega), ml_166, if_pos rfl]
  have a5 : (ml_p (k + 2) 1 (Int32.ofNat z0) (ml_p (k + 1) 1 (Int32.ofNat z1) (ml_p k 2 (Int32.ofNat y) S2))).1 165 k = 2 := by rw [ml_165, if_neg (by omega), ml_165, if_neg (by omega), ml_165, if_pos rfl]
  have a6 : (ml_p (k + 2) 1 (Int32.ofNat z0) (ml_p (k + 1) 1 (Int32.ofNat z1) (ml_p k 2 (Int32.ofNat y) S2))).1 166 k = Int32.ofNat y := by rw [ml_166, if_neg (by omega), ml_166, if_neg (by omega), ml_166, if_pos rfl]
  have hgo := g3 _ ef
  generalize ml_p (k + 2) 1 (Int32.ofNat z0) (ml_p (k + 1) 1 (Int32.ofNat z1) (ml_p k 2 (Int32.ofNat y) S2)) = S3 at *
  refine mm_step hgo o3 ?_
  unfold mk_sg
  refine mm_bind 2 (hS _ (s.1, s.2.1 + 1, s.2.2) (k + 2) n mn ma ml z0 _ d S3 h3 a1 a2 (by show mn ≤ s.2.1 + 1; omega) hma (by omega) (by omega) t0) (by show 3 * s.2.1 + 1 + 2 ≤ 3 * (s.2.1 + 1); omega) (by omega) (Nat.le_refl _) (Nat.le_refl _) (Nat.le_refl _) (fun q S4 hq G => ?_)
  obtain ⟨ma4, h4, i4, j4, r4, o4⟩ := G
  obtain ⟨p1, p2, p3, p4⟩ := mk_gs _ _ _ _ _ hq
  have p1 : s.2.1 + 1 + q.1.2.1 ≤ q.2.2.2.1 := p1
  have nq := mm_nzi p4
  refine mm_bind 2 (hS _ q.2.2 (k + 1) (n + 1) (mn + mm_nz q.1) ma4 (ml + q.1.2.2) z1 _ d S4 h4 (by rw [o4.1 165 (k + 1) (by unfold mm_F; omega)]; exact a3) (by rw [o4.1 166 (k + 1) (by unfold mm_F; omega)]; exact a4) (by omega) (by split at i4 <;> omega) (by omega) (by omega) t1) (by omega) (by omega) (by omega) (by omega) j4 (fun w S5 hw G => ?_)
  obtain ⟨ma5, h5, i5, j5, r5, o5⟩ := G
  obtain ⟨b1, b2, b3, b4⟩ := mk_gs _ _ _ _ _ hw
  have nw := mm_nzi b4
  have h13 := h5.2.2.2.2.2.2.2.2.2.2.2.2.1
  have := mm_sgn (R1 := q.1) (R2 := w.1) (c := 3 * w.2.2.2.1 - 2) (mn := mn) (ma := ma) (ml := ml) (r := r) hX h5 (by omega) (by omega) (by rw [o5.1 165 k (by unfold mm_F; omega), o4.1 165 k (by unfold mm_F; omega)]; exact a5) (by rw [o5.1 166 k (by unfold mm_F; omega), o4.1 166 k (by unfold mm_F; omega)]; exact a6) hy hkd (by rw [(mm_n hX h5.1 hy).2.2.2]; exact h146) (mk_r1 hq) (mm_r_o o5 (Nat.lt_succ_self n) (Nat.le_add_right _ _) j5 r4) r5 p4 b4 rfl (by split at i4 <;> split at i5 <;> omega) (by omega) rfl (by omega) (by omega)
  rw [hkt]
  exact this
theorem mm_if (hX : mm_X B h pg S0) (hS : mm_S B h pg S0 r) (hE : mm_E B h pg S0 N s k n mn ma ml y S S2) (hmn : mn ≤ s.2.1) (hma : ma ≤ mn) (hk : k + 6 * (r + 1) ≤ 3900) (hn : n + 5 * (r + 1) ≤ 3900) (hy : y < 3004) (h143 : S0.1 143 y = 2) {z0 z1 z2 : Nat} (h144 : S0.1 144 y = Int32.ofNat z0) (h145 : S0.1 145 y = Int32.ofNat z1) (h146 : S0.1 146 y = Int32.ofNat z2) (t0 : mj_t S0 (48 * h) (1501 * h) (1501 * h + 1500) (1501 * h) (1501 * h + 1500) d z0 (tr_sub t 0)) (t1 : mj_t S0 (48 * h) (1501 * h) (1501 * h + 1500) (1501 * h) (1501 * h + 1500) d z1 (tr_sub t 1)) (t2 : mj_t S0 (48 * h) (1501 * h) (1501 * h + 1500) (1501 * h) (1501 * h + 1500) d z2 (tr_sub t 2)) : mm_O B h pg S0 (r + 1) k n mn ma ml (3 * s.2.1) (mk_if (mk pg r) N (s.1, s.2.1 + 1, s.2.2) t) S := by
  obtain ⟨h2, o2, hev⟩ := hE
  obtain ⟨e2, g1, g2, g3⟩ := hev _ rfl
  have hS1 : of_f (mm_F B 0 0 0 0) S0 (wd_i S 135 76 (Int32.ofNat k)) := of_trans h2.1 (by
    rw [e2]
    exact ⟨fun a b q => (fr_ne (fun w => q (Or.inl ⟨w.1, by omega⟩))).symm, fun a b q => rfl, rfl⟩)
  obtain ⟨n3, n4, n5, n6⟩ := mm_n hX hS1 hy
  have ef := mm_ev2 (y := y) (k := k) (S := wd_i S 135 76 (Int32.ofNat k)) (by omega) g1 (by rw [n3]; exact h143) g2 (by omega)
  rw [← e2, n4, h144] at ef
  have h3 := mm_h_p (x := 1) (v := Int32.ofNat z0) (mm_h_p (x := 3) (v := Int32.ofNat y) h2)
  have o3 : of_f (mm_F B k n mn ma) S (ml_p (k + 1) 1 (Int32.ofNat z0) (ml_p k 3 (Int32.ofNat y) S2)) := of_trans (mm_Ew o2 k n mn ma) (of_trans (mm_pw (Nat.le_refl _)) (mm_pw (by omega)))
  have a1 : (ml_p (k + 1) 1 (Int32.ofNat z0) (ml_p k 3 (Int32.ofNat y) S2)).1 165 (k + 1) = 1 := by rw [ml_165, if_pos rfl]
  have a2 : (ml_p (k + 1) 1 (Int32.ofNat z0) (ml_p k 3 (Int32.ofNat y) S2)).1 166 (k + 1) = Int32.ofNat z0 := by rw [ml_166, if_pos rfl]
  have a5 : (ml_p (k + 1) 1 (Int32.ofNat z0) (ml_p k 3 (Int32.ofNat y) S2)).1 165 k = 3 := by rw [ml_165, if_neg (by omega), ml_165, if_pos rfl]
  have a6 : (ml_p (k + 1) 1 (Int32.ofNat z0) (ml_p k 3 (Int32.ofNat y) S2)).1 166 k = Int32.ofNat y := by rw [ml_166, if_neg (by omega), ml_166, if_pos rfl]
  have hgo := g3 _ ef
  generalize ml_p (k + 1) 1 (Int32.ofNat z0) (ml_p k 3 (Int32.ofNat y) S2) = S3 at *
  refine mm_step hgo o3 ?_
  unfold mk_if
  refine mm_bind 2 (hS _ (s.1, s.2.1 + 1, s.2.2) (k + 1) n mn ma ml z0 _ d S3 h3 a1 a2 (by show mn ≤ s.2.1 + 1; omega) hma (by omega) (by omega) t0) (by show 3 * s.2.1 + 1 + 2 ≤ 3 * (s.2.1 + 1); omega) (by omega) (Nat.le_refl _) (Nat.le_refl _) (Nat.le_refl _) (fun q S4 hq G => ?_)
  obtain ⟨ma4, h4, i4, j4, r4, o4⟩ := G
  obtain ⟨p1, p2, p3, p4⟩ := mk_gs _ _ _ _ _ hq
  have p1 : s.2.1 + 1 + q.1.2.1 ≤ q.2.2.2.1 := p1
  have nq := mm_nzi p4
  have b5 : S4.1 165 k = 3 := by rw [o4.1 165 k (by unfold mm_F; omega)]; exact a5
  have b6 : S4.1 166 k = Int32.ofNat y := by rw [o4.1 166 k (by unfold mm_F; omega)]; exact a6
  obtain ⟨-, -, m5, m6⟩ := mm_n hX h4.1 hy
  by_cases hq1 : tr_k q.1.1 = 1
  · rw [if_pos hq1]
    have k0 : mm_nz q.1 = 0 := if_pos hq1
    have l0 : q.1.2.2 = 0 := by rw [p4 hq1]
    rw [if_pos hq1] at i4
    rw [k0, l0, i4] at h4
    rcases r4 with ⟨-, c1, c2, -⟩ | ⟨c1, -⟩
    · have hz : (if S4.1 168 n = 0 then S4.1 146 y else S4.1 145 y) = Int32.ofNat (if tr_v q.1.1 = 0 then z2 else z1) := by
        rw [c2, m5, m6, h145, h146]
        split <;> rfl
      obtain ⟨S5, d1, d2, d3, d4, d5⟩ := mm_chs_n hX h4 (by omega) (by omega) b5 b6 hy c1 hz
      refine mm_step d1 d5 (mm_more (Nat.le_succ r) (c := 3 * q.2.2.2.1) (by omega) ?_)
      by_cases hv0 : tr_v q.1.1 = 0
      · rw [if_pos hv0] at d4 ⊢
        exact hS _ q.2.2 k n mn ma ml z2 _ d S5 d2 d3 d4 (by omega) hma (by omega) (by omega) t2
      · rw [if_neg hv0] at d4 ⊢
        exact hS _ q.2.2 k n mn ma ml z1 _ d S5 d2 d3 d4 (by omega) hma (by omega) (by omega) t1
    · exact absurd hq1 c1
  · rw [if_neg hq1]
    have k0 : mm_nz q.1 = q.1.2.1 := if_neg hq1
    rw [if_neg hq1] at i4
    have c1 : S4.1 167 n = 0 := by
      rcases r4 with ⟨c1, -⟩ | ⟨-, c1, -⟩
      · exact absurd c1 hq1
      · exact c1
    obtain ⟨S5, d1, d2, d3, d4, d5, d6, d7, d8, d9⟩ := mm_chs_r hX h4 (by omega) (by omega) b5 b6 hy c1
    have w5 : ∀ n0 mn0 ma0, of_f (mm_F B k n0 mn0 ma0) S4 S5 := fun n0 mn0 ma0 => of_mono (fun a b z => mm_w_F a b (by unfold mm_w; omega)) d9
    refine mm_step d1 (w5 n mn ma) ?_
    rw [m6, h146] at d6
    rw [m5, h145] at d8
    have r4' := mm_r_o (w5 (n + 1) (mn + mm_nz q.1) ma4) (Nat.lt_succ_self n) (Nat.le_refl _) (Nat.le_refl _) r4
    refine mm_bind 1 (hS _ q.2.2 (k + 2) (n + 1) (mn + mm_nz q.1) ma4 (ml + q.1.2.2) z1 _ d S5 d2 d7 d8 (by omega) (by omega) (by omega) (by omega) t1) (by omega) (by omega) (by omega) (by omega) j4 (fun w S6 hw G => ?_)
    obtain ⟨ma6, h6, i6, j6, r6, o6⟩ := G
    obtain ⟨f1, f2, f3, f4⟩ := mk_gs _ _ _ _ _ hw
    have nw := mm_nzi f4
    refine mm_bind 1 (hS _ w.2.2 (k + 1) (n + 2) (mn + mm_nz q.1 + mm_nz w.1) ma6 (ml + q.1.2.2 + w.1.2.2) z2 _ d S6 h6 (by rw [o6.1 165 (k + 1) (by unfold mm_F; omega)]; exact d5) (by rw [o6.1 166 (k + 1) (by unfold mm_F; omega)]; exact d6) (by omega) (by split at i6 <;> omega) (by omega) (by omega) t2) (by omega) (by omega) (by omega) (by omega) (by omega) (fun u S7 hu G => ?_)
    obtain ⟨ma7, h7, i7, j7, r7, o7⟩ := G
    obtain ⟨g1, g2, g3, g4⟩ := mk_gs _ _ _ _ _ hu
    have nu := mm_nzi g4
    have h13 := h7.2.2.2.2.2.2.2.2.2.2.2.2.1
    have fin := mm_chc (R1 := q.1) (R2 := w.1) (R3 := u.1) (c := 3 * u.2.2.2.1 - 1) (mn := mn) (ma := ma) (ml := ml) (r := r) (y := y) hX h7 (by omega) (by omega) (by rw [o7.1 165 k (by unfold mm_F; omega), o6.1 165 k (by unfold mm_F; omega)]; exact d3) (by rw [o7.1 166 k (by unfold mm_F; omega), o6.1 166 k (by unfold mm_F; omega)]; exact d4) (mk_r1 hq) (mm_r_o o7 (show n < n + 2 by omega) (Nat.le_add_right _ _) j7 (mm_r_o o6 (Nat.lt_succ_self n) (Nat.le_add_right _ _) j6 r4')) (mm_r_o o7 (show n + 1 < n + 2 by omega) (Nat.le_add_right _ _) j7 r6) r7 p4 f4 g4 rfl (by split at i6 <;> split at i7 <;> omega) (by omega) rfl (by omega) (by omega)
    exact fin
theorem mm_let (hX : mm_X B h pg S0) (hS : mm_S B h pg S0 r) (hE : mm_E B h pg S0 N s k n mn ma ml y S S2) (hmn : mn ≤ s.2.1) (hma : ma ≤ mn) (hk : k + 6 * (r + 1) ≤ 3900) (hn : n + 5 * (r + 1) ≤ 3900) (hy : y < 3004) (h143 : S0.1 143 y = 3) {z0 z1 : Nat} (h144 : S0.1 144 y = Int32.ofNat z0) (h145 : S0.1 145 y = Int32.ofNat z1) (hv : tr_v t = Int32.ofNat (tr_n t)) (hi : tr_n t < 16) (h146 : S0.1 146 y = tr_v t) (t0 : mj_t S0 (48 * h) (1501 * h) (1501 * h + 1500) (1501 * h) (1501 * h + 1500) d z0 (tr_sub t 0)) (t1 : mj_t S0 (48 * h) (1501 * h) (1501 * h + 1500) (1501 * h) (1501 * h + 1500) d z1 (tr_sub t 1)) : mm_O B h pg S0 (r + 1) k n mn ma ml (3 * s.2.1) (mk_let (mk pg r) N (s.1, s.2.1 + 1, s.2.2) t) S := by
  obtain ⟨h2, o2, hev⟩ := hE
  obtain ⟨e2, g1, g2, g3⟩ := hev _ rfl
  have hS1 : of_f (mm_F B 0 0 0 0) S0 (wd_i S 135 76 (Int32.ofNat k)) := of_trans h2.1 (by
    rw [e2]
    exact ⟨fun a b q => (fr_ne (fun w => q (Or.inl ⟨w.1, by omega⟩))).symm, fun a b q => rfl, rfl⟩)
  obtain ⟨n3, n4, n5, n6⟩ := mm_n hX hS1 hy
  have ef := mm_ev3 (y := y) (k := k) (S := wd_i S 135 76 (Int32.ofNat k)) (by omega) g1 (by rw [n3]; exact h143) g2 (by omega)
  rw [← e2, n4, h144] at ef
  have h3 := mm_h_p (x := 1) (v := Int32.ofNat z0) (mm_h_p (x := 6) (v := Int32.ofNat y) h2)
  have o3 : of_f (mm_F B k n mn ma) S (ml_p (k + 1) 1 (Int32.ofNat z0) (ml_p k 6 (Int32.ofNat y) S2)) := of_trans (mm_Ew o2 k n mn ma) (of_trans (mm_pw (Nat.le_refl _)) (mm_pw (by omega)))
  have a1 : (ml_p (k + 1) 1 (Int32.ofNat z0) (ml_p k 6 (Int32.ofNat y) S2)).1 165 (k + 1) = 1 := by rw [ml_165, if_pos rfl]
  have a2 : (ml_p (k + 1) 1 (Int32.ofNat z0) (ml_p k 6 (Int32.ofNat y) S2)).1 166 (k + 1) = Int32.ofNat z0 := by rw [ml_166, if_pos rfl]
  have a5 : (ml_p (k + 1) 1 (Int32.ofNat z0) (ml_p k 6 (Int32.ofNat y) S2)).1 165 k = 6 := by rw [ml_165, if_neg (by omega), ml_165, if_pos rfl]
  have a6 : (ml_p (k + 1) 1 (Int32.ofNat z0) (ml_p k 6 (Int32.ofNat y) S2)).1 166 k = Int32.ofNat y := by rw [ml_166, if_neg (by omega), ml_166, if_pos rfl]
  have hgo := g3 _ ef
  generalize ml_p (k + 1) 1 (Int32.ofNat z0) (ml_p k 6 (Int32.ofNat y) S2) = S3 at *
  refine mm_step hgo o3 ?_
  unfold mk_let
  refine mm_bind 2 (hS _ (s.1, s.2.1 + 1, s.2.2) (k + 1) n mn ma ml z0 _ d S3 h3 a1 a2 (by show mn ≤ s.2.1 + 1; omega) hma (by omega) (by omega) t0) (by show 3 * s.2.1 + 1 + 2 ≤ 3 * (s.2.1 + 1); omega) (by omega) (Nat.le_refl _) (Nat.le_refl _) (Nat.le_refl _) (fun q S4 hq G => ?_)
  obtain ⟨ma4, h4, i4, j4, r4, o4⟩ := G
  obtain ⟨p1, p2, p3, p4⟩ := mk_gs _ _ _ _ _ hq
  have p1 : s.2.1 + 1 + q.1.2.1 ≤ q.2.2.2.1 := p1
  have nq := mm_nzi p4
  have b5 : S4.1 165 k = 6 := by rw [o4.1 165 k (by unfold mm_F; omega)]; exact a5
  have b6 : S4.1 166 k = Int32.ofNat y := by rw [o4.1 166 k (by unfold mm_F; omega)]; exact a6
  obtain ⟨-, -, m5, m6⟩ := mm_n hX h4.1 hy
  have m6 : S4.1 146 y = Int32.ofNat (tr_n t) := by rw [m6, h146]; exact hv
  by_cases hq1 : tr_k q.1.1 = 1
  · rw [if_pos hq1]
    have k0 : mm_nz q.1 = 0 := if_pos hq1
    have l0 : q.1.2.2 = 0 := by rw [p4 hq1]
    rw [if_pos hq1] at i4
    rw [k0, l0, i4] at h4
    rcases r4 with ⟨-, c1, c2, -⟩ | ⟨c1, -⟩
    · obtain ⟨S5, d1, d2, d3, d4, d5⟩ := mm_ltg_n hX h4 (by omega) (by omega) b5 b6 hy hi m6 c1 c2
      rw [m5, h145] at d4
      refine mm_step d1 d5 (mm_more (Nat.le_succ r) (c := 3 * q.2.2.2.1) (by omega) ?_)
      exact hS _ q.2.2 k n mn ma ml z1 _ d S5 d2 d3 d4 (by omega) hma (by omega) (by omega) t1
    · exact absurd hq1 c1
  · rw [if_neg hq1]
    have k0 : mm_nz q.1 = q.1.2.1 := if_neg hq1
    rw [if_neg hq1] at i4
    have c1 : S4.1 167 n = 0 := by
      rcases r4 with ⟨c1, -⟩ | ⟨-, c1, -⟩
      · exact absurd c1 hq1
      · exact c1
    obtain ⟨S5, d1, d2, d3, d4, d5, d6, d7⟩ := mm_ltg_r hX h4 (by omega) (by omega) b5 b6 hy hi m6 c1
    rw [m5, h145] at d6
    refine mm_step d1 (of_mono (mm_F_le (Nat.le_refl _) (Nat.le_succ n) (Nat.le_refl _) (Nat.le_refl _)) (d7 mn ma)) ?_
    have r4' := mm_r_o (d7 (mn + mm_nz q.1) ma4) (Nat.lt_succ_self n) (Nat.le_refl _) (Nat.le_refl _) r4
    rw [hv]
    refine mm_bind 1 (hS _ q.2.2 (k + 1) (n + 1) (mn + mm_nz q.1) ma4 (ml + q.1.2.2) z1 _ d S5 d2 d5 d6 (by omega) (by omega) (by omega) (by omega) t1) (by omega) (by omega) (by omega) (by omega) j4 (fun w S6 hw G => ?_)
    obtain ⟨ma6, h6, i6, j6, r6, o6⟩ := G
    obtain ⟨f1, f2, f3, f4⟩ := mk_gs _ _ _ _ _ hw
    have nw := mm_nzi f4
    have h13 := h6.2.2.2.2.2.2.2.2.2.2.2.2.1
    have m6' : S6.1 146 y = Int32.ofNat (tr_n t) := by rw [(mm_n hX h6.1 hy).2.2.2, h146]; exact hv
    have fin := mm_lts (R1 := q.1) (R2 := w.1) (c := 3 * w.2.2.2.1 - 1) (mn := mn) (ma := ma) (ml := ml) (r := r) hX h6 (by omega) (by omega) (by rw [o6.1 165 k (by unfold mm_F; omega)]; exact d3) (by rw [o6.1 166 k (by unfold mm_F; omega)]; exact d4) hy hi m6' (mk_r1 hq) (mm_r_o o6 (Nat.lt_succ_self n) (Nat.le_add_right _ _) j6 r4') r6 p4 f4 rfl (by split at i6 <;> omega) (by omega) rfl (by omega) (by omega)
    exact fin
end Mmb
