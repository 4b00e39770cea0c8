/-! The reference's judge: a whole tree. -/
/-- the judge does with a tree what it should -/
def jt_P (T : Nat → Int32) (n f B al ah : Nat) (fs : List ps_F) (d : Nat) : Prop := ∀ lo hi y t M sc k S, mr_u T n f S al ah 0 16 d lo hi y t → rs_t (tk_V T n) d sc t M → (∀ o, o ∈ M → o.1 < 2147483648) → jh_g f B fs sc (k + 1) S → S.1 152 k = 1 → S.1 153 k = Int32.ofNat y → hi ≤ 15010 → k + 3 * d ≤ 600 → jq T n (3 * (hi - lo)) (jW k sc.length lo hi) (ps_first (tk_V T n) fs M) (fun S' => jh_g f B fs sc k S' ∧ mj_t S' (48 * B) lo hi al ah d y (tr_g (ld_G (tk_V T n) fs) t)) S
section Jt
variable {T : Nat → Int32} {n f B k y lo hi al ah d : Nat} {S S' S1 : wd_S} {fs : List ps_F} {sc : List (Int64 × Nat)}
theorem jt_args (hP : jt_P T n f B al ah fs d) {g a : Nat} {rg : Nat → Nat} {t : tr_T} {Ms : List (List (Nat × Nat))} (hrg : ∀ i, i < a → rg i < rg (i + 1)) (hhi : rg a ≤ 15010) (hl : Ms.length = a) (hrs : ∀ j, (hj : j < Ms.length) → rs_t (tk_V T n) d sc (tr_sub t j) Ms[j]) (hM : ∀ o, o ∈ Ms.flatten → o.1 < 2147483648) (hk : k + a + 3 * d ≤ 601) : ∀ (r j : Nat) (S : wd_S), r + j = a → jh_g f B fs sc (k + r) S → (∀ i, i < r → S.1 152 (k + i) = 1 ∧ S.1 153 (k + i) = S.1 149 (g + (a - 1 - i))) → (∀ i, j ≤ i → i < a → ∃ z, S.1 149 (g + i) = Int32.ofNat z ∧ mr_u T n f S al ah 0 16 d (rg i) (rg (i + 1)) z (tr_sub t i)) → (∀ i, i < j → ∃ z, S.1 149 (g + i) = Int32.ofNat z ∧ mj_t S (48 * B) (rg i) (rg (i + 1)) al ah d z (tr_g (ld_G (tk_V T n) fs) (tr_sub t i))) → jq T n (3 * (rg a - rg j)) (jW k sc.length (rg j) (rg a)) (ps_first (tk_V T n) fs (Ms.drop j).flatten) (fun S' => jh_g f B fs sc k S' ∧ ∀ i, i < a → ∃ z, S'.1 149 (g + i) = Int32.ofNat z ∧ mj_t S' (48 * B) (rg i) (rg (i + 1)) al ah d z (tr_g (ld_G (tk_V T n) fs) (tr_sub t i))) S := by
  have hmo : ∀ (c i : Nat), i + c ≤ a → rg i ≤ rg (i + c) := by
    intro c
    induction c with
    | zero => intro i _; exact Nat.le_refl _
    | succ c ih =>
      intro i h
      have h1 := ih i (by omega)
      have h2 := hrg (i + c) (by omega)
      have e : i + (c + 1) = i + c + 1 := by omega
      rw [e]
      omega
  have hmo : ∀ i j, i ≤ j → j ≤ a → rg i ≤ rg j := fun i j h1 h2 => by
    have := hmo (j - i) i (by omega)
    rw [show i + (j - i) = j by omega] at this
    exact this
  intro r
  induction r with
  | zero =>
    intro j S hj h h1 h2 h3
    have ej : j = a := by omega
    rw [ej, ← hl, List.drop_length, hl]
    obtain ⟨g, S', b1, b2, b3, b4⟩ := jq_end (T := T) (n := n) (W := jW k sc.length (rg a) (rg a)) (P := fun S' => jh_g f B fs sc k S' ∧ ∀ i, i < a → ∃ z, S'.1 149 (g + i) = Int32.ofNat z ∧ mj_t S' (48 * B) (rg i) (rg (i + 1)) al ah d z (tr_g (ld_G (tk_V T n) fs) (tr_sub t i))) (S := S) ⟨h, fun i hi => h3 i (by omega)⟩
    exact ⟨g, S', b1, by omega, b3, b4⟩
  | succ r ih =>
    intro j S hj h h1 h2 h3
    have hjl : j < Ms.length := by omega
    rw [List.drop_eq_getElem_cons hjl, List.flatten_cons, ps_first_b]
    have hlt := hrg j (by omega)
    have hle := hmo (j + 1) a (by omega) (Nat.le_refl _)
    obtain ⟨z, c1, c2⟩ := h2 j (Nat.le_refl _) (by omega)
    obtain ⟨t1, t2⟩ := h1 r (Nat.lt_succ_self r)
    rw [show a - 1 - r = j by omega, c1] at t2
    have q1 := hP (rg j) (rg (j + 1)) z (tr_sub t j) Ms[j] sc (k + r) S c2 (hrs j hjl) (fun o ho => hM o (List.mem_flatten.mpr ⟨_, List.getElem_mem hjl, ho⟩)) h t1 t2 (by omega) (by omega)
    refine jq_then q1 (W2 := jW k sc.length (rg (j + 1)) (rg a)) (g1 := 3 * (rg a - rg (j + 1))) (fun S2 o2 p2 => ?_) (by omega) (jW_le (by omega) (Nat.le_refl _) (Nat.le_refl _) hle) (jW_le (Nat.le_refl _) (Nat.le_refl _) (by omega) (Nat.le_refl _))
    obtain ⟨p1, p3⟩ := p2
    have e149 : ∀ b, S2.1 149 b = S.1 149 b := fun b => o2.1 149 b (by unfold jW; omega)
    refine ih (j + 1) S2 (by omega) p1 (fun i hi => ?_) (fun i i1 i2 => ?_) (fun i hi => ?_)
    · rw [o2.1 152 (k + i) (by unfold jW; omega), o2.1 153 (k + i) (by unfold jW; omega), e149]
      exact h1 i (by omega)
    · obtain ⟨z', u1, u2⟩ := h2 i (by omega) i2
      refine ⟨z', (e149 _).trans u1, mr_u_m (Nat.le_refl _) (Nat.le_refl _) (Nat.le_refl _) (Nat.le_refl _) d _ _ _ _ _ _ (Nat.le_refl _) (Nat.le_refl _) (jr_o o2 (Or.inr (hmo (j + 1) i (by omega) (by omega)))) u2⟩
    · by_cases e : i = j
      · subst e
        exact ⟨z, (e149 _).trans c1, p3⟩
      · obtain ⟨z', u1, u2⟩ := h3 i (by omega)
        exact ⟨z', (e149 _).trans u1, mj_t_m (Nat.le_refl _) (Nat.le_refl _) (Nat.le_refl _) (Nat.le_refl _) (jm_o o2 (Or.inl (hmo (i + 1) j (by omega) (by omega)))) d z' _ u2⟩
set_option maxHeartbeats 4000000 in
theorem jt_all (hah : ah ≤ 3002) : ∀ d, jt_P T n f B al ah fs d := by
  intro d
  induction d with
  | zero => intro lo hi y t M sc k S h; exact absurd h id
  | succ d ih =>
    intro lo hi y t M sc k S hm hr hM h h1 h2 hhi hk
    obtain ⟨y1, y2, hm⟩ := hm
    have hr : rs_b (tk_V T n) (rs_t (tk_V T n) d) sc t M := hr
    have hy : y < 15010 := by omega
    have hin := ms_in hy (show 15010 < 2147483648 by decide)
    have hyt := im_t (show y < 2147483648 by omega)
    have hk4 : k < 4000 := by omega
    generalize hS0 : wd_i S 135 35 (Int32.ofNat k) = S0
    have o0 : of_f (fun a b => a = 135 ∧ b = 35) S S0 := by rw [← hS0]; exact of_i ⟨rfl, rfl⟩ of_refl
    have e35 : S0.1 135 35 = Int32.ofNat k := by rw [← hS0, fr_eq]
    have r0 : ∀ a, a ≠ 135 → S0.1 a y = S.1 a y := fun a ha => o0.1 a y (by omega)
    have h0 : jh_g f B fs sc k S0 := jg_u h (of_mono (fun a b z => Or.inl z) o0) e35
    have jud : ∀ S1, fn_Mo_onJudge (Int32.ofNat y) S0 = some S1 → jg_go 1 S S1 := fun S1 hS1 => jg_jud h hk4 h1 h2 (by rw [hS0]; exact hS1)
    rcases hm with ⟨k1, k2, k3, k4⟩ | ⟨k1, k2, k3, k4, k5⟩ | ⟨k1, k2, k3, k4, ⟨s, k5, k6, k7, k8⟩, z0, z1, a0, b0, b1, m1, m2, m3, m4, m5, m6⟩ | ⟨k1, k2, k3, z0, z1, z2, a0, b0, b1, b2, m1, m2, m3, m4, m5, m6, m7, m8⟩ | ⟨k1, k2, k3, k4, k5, k6, g, rg, m1, m2, m3, m4, m5, m6⟩ | ⟨k0, k2, k3, k4, z0, z1, a0, b0, b1, m1, m2, m3, m4, m5, m6⟩
    · -- a number
      have hMe : M = [] := by
        rcases hr with ⟨-, q⟩ | ⟨q, -⟩ | ⟨q, -⟩ | ⟨q, -⟩ | ⟨q, -⟩ | ⟨q | q | q | q | q, -⟩
        · exact q
        all_goals (rw [k1] at q; exact absurd q (by decide))
      subst hMe
      have hon : fn_Mo_onJudge (Int32.ofNat y) S0 = some S0 := by
        unfold fn_Mo_onJudge fn_Mo_onJudge_382
        rw [if_neg hin, hyt, r0 143 (by decide), k3, if_neg (by decide), if_neg (by decide), if_neg (by decide), if_neg (by decide), if_pos rfl]
      refine ⟨1, S0, jud S0 hon, by omega, of_mono (fun a b z => Or.inl ⟨z.1, by omega⟩) o0, ⟨h0, y1, y2, Or.inl ⟨tr_g_k.trans k1, tr_g_a.trans k2, (r0 143 (by decide)).trans k3, ?_⟩⟩, o0.1 135 10 (by omega)⟩
      rw [r0 144 (by decide), k4, tr_g_v, if_neg (by rw [k1]; decide)]
    · -- a name
      have hk3 : S0.1 143 y = 7 := (r0 143 (by decide)).trans k3
      obtain ⟨S2, f2, o2, r2⟩ := jn_alone (V := tk_V T n) (o := tr_o t) (p := tk_p T n (tr_o t)) h0 hy hk3 ((o0.2.1 148 y (by omega)).trans k4) ((r0 147 (by decide)).trans k5)
      have hW : of_f (jW k sc.length lo hi) S S2 := of_trans (of_mono (fun a b z => Or.inl ⟨z.1, by omega⟩) o0) (of_mono (fun a b z => by unfold jW; omega) o2)
      have hc : (∃ s, ps_look (tk_V T n (tr_o t)) sc = some s ∧ tr_v t = Int32.ofNat s ∧ M = []) ∨ (ps_look (tk_V T n (tr_o t)) sc = none ∧ M = [(tr_o t, 0)]) := by
        rcases hr with ⟨q, -⟩ | ⟨-, q⟩ | ⟨q, -⟩ | ⟨q, -⟩ | ⟨q, -⟩ | ⟨q | q | q | q | q, -⟩
        · rw [k1] at q; exact absurd q (by decide)
        · exact q
        all_goals (rw [k1] at q; exact absurd q (by decide))
      rcases hc with ⟨s, c1, c2, c3⟩ | ⟨c1, c2⟩
      · rw [c1] at r2
        obtain ⟨r3, r4, r5, r6⟩ := r2
        subst c3
        refine ⟨1, S2, jud S2 f2, by omega, hW, ⟨jg_v h0 (of_mono (fun a b z => by omega) o2) r3 ((o2.1 135 35 (by omega)).trans e35), y1, y2, Or.inr (Or.inl ⟨tr_g_k.trans k1, tr_g_a.trans k2, ?_, ?_, s, r5, ?_⟩)⟩, r6.trans (o0.1 135 10 (by omega))⟩
        · rw [o2.1 143 y (by omega)]; exact hk3
        · rw [r4, tr_g_v, if_neg (by rw [k1]; decide), c2]
        · rw [tr_g_v, if_neg (by rw [k1]; decide), c2]
      · rw [c1] at r2
        subst c2
        exact ⟨1, S2, jud S2 f2, by omega, hW, (show ¬(4 : Int32) = 0 by decide), r2.1, r2.2⟩
    · -- LET
      have hc : sc.length < 16 ∧ ∃ s M1 M2, s < 16 ∧ tr_v t = Int32.ofNat s ∧ M = M1 ++ M2 ∧ rs_t (tk_V T n) d sc (tr_sub t 0) M1 ∧ rs_t (tk_V T n) d ((tk_V T n (tr_o t), s) :: sc) (tr_sub t 1) M2 := by
        rcases hr with ⟨q, -⟩ | ⟨q, -⟩ | ⟨-, q⟩ | ⟨q, -⟩ | ⟨q, -⟩ | ⟨q | q | q | q | q, -⟩
        · rw [k1] at q; exact absurd q (by decide)
        · rw [k1] at q; exact absurd q (by decide)
        · exact q
        all_goals (rw [k1] at q; exact absurd q (by decide))
      obtain ⟨hl, s', M1, M2, c1, c2, c3, c4, c5⟩ := hc
      have es : s' = s := (im_eq (by omega) (by omega)).mp (c2.symm.trans k5)
      subst es
      subst c3
      rw [ps_first_b]
      generalize hS1 : ms_p (k + 3) 1 (Int32.ofNat z0) (ms_p (k + 2) 3 (Int32.ofNat y) (ms_p (k + 1) 1 (Int32.ofNat z1) (ms_p k 4 (Int32.ofNat y) S0))) = S1
      have o1 : of_f (fun a b => (a = 135 ∧ b = 35) ∨ (a = 152 ∧ k ≤ b) ∨ (a = 153 ∧ k ≤ b)) S S1 := by
        rw [← hS1]
        exact of_trans (of_trans (of_trans (of_trans (of_mono (fun a b z => by omega) o0) (of_mono (fun a b z => by unfold mw_p at z; omega) ms_o)) (of_mono (fun a b z => by unfold mw_p at z; omega) ms_o)) (of_mono (fun a b z => by unfold mw_p at z; omega) ms_o)) (of_mono (fun a b z => by unfold mw_p at z; omega) ms_o)
      have hon : fn_Mo_onJudge (Int32.ofNat y) S0 = some S1 := by
        have q1 : ∀ a, a ≠ 135 → a ≠ 152 → a ≠ 153 → ∀ kk x z (Sx : wd_S), (ms_p kk x z Sx).1 a y = Sx.1 a y := fun a w1 w2 w3 kk x z Sx => ms_o.1 a y (by unfold mw_p; omega)
        unfold fn_Mo_onJudge fn_Mo_onJudge_382
        rw [if_neg hin, hyt, r0 143 (by decide), k3, if_neg (by decide), if_neg (by decide), if_pos rfl, ms_push e35 hk4, wd_d_s, if_neg (by rintro (z | z); exact im_neg (by omega) z; omega), q1 145 (by decide) (by decide) (by decide), r0 145 (by decide), m2, ms_push (t := k + 1) ms_35 (by omega), wd_d_s, ms_push (t := k + 2) ms_35 (by omega), wd_d_s, if_neg (by rintro (z | z); exact im_neg (by omega) z; omega), q1 144 (by decide) (by decide) (by decide), q1 144 (by decide) (by decide) (by decide), q1 144 (by decide) (by decide) (by decide), r0 144 (by decide), m1, ms_push (t := k + 3) ms_35 (by omega), wd_d_s, hS1]
      have t35 : S1.1 135 35 = Int32.ofNat (k + 3 + 1) := by rw [← hS1]; exact ms_35
      have w1 : S1.1 152 k = 4 := by rw [← hS1, ms_152, if_neg (by omega), ms_152, if_neg (by omega), ms_152, if_neg (by omega), ms_152, if_pos rfl]
      have w2 : S1.1 152 (k + 1) = 1 := by rw [← hS1, ms_152, if_neg (by omega), ms_152, if_neg (by omega), ms_152, if_pos rfl]
      have w3 : S1.1 153 (k + 1) = Int32.ofNat z1 := by rw [← hS1, ms_153, if_neg (by omega), ms_153, if_neg (by omega), ms_153, if_pos rfl]
      have w4 : S1.1 152 (k + 2) = 3 := by rw [← hS1, ms_152, if_neg (by omega), ms_152, if_pos rfl]
      have w5 : S1.1 153 (k + 2) = Int32.ofNat y := by rw [← hS1, ms_153, if_neg (by omega), ms_153, if_pos rfl]
      have w6 : S1.1 152 (k + 3) = 1 := by rw [← hS1, ms_152, if_pos rfl]
      have w7 : S1.1 153 (k + 3) = Int32.ofNat z0 := by rw [← hS1, ms_153, if_pos rfl]
      clear hS1
      have u0 := mr_u_b m4
      have u1 := mr_u_b m5
      have g1 : jh_g f B fs sc (k + 3 + 1) S1 := jg_u h (of_mono (fun a b z => by omega) o1) t35
      have mg : ∀ lo' hi', mr_g f lo' hi' al ah 0 16 S S1 := fun lo' hi' => jr_p (k := k) (t := 0) (of_mono (fun a b z => by omega) o1)
      refine jq_step (jud S1 hon) (of_mono (fun a b z => by unfold jW; omega) o1) (o1.1 135 10 (by omega)) (W2 := jW k sc.length a0 b1) (g1 := 3 * (b1 - a0) + 2) ?_ (by omega) (jW_le (Nat.le_refl _) (Nat.le_refl _) (by omega) m6)
      have q1 := ih a0 b0 z0 (tr_sub t 0) M1 sc (k + 3) S1 (mr_u_m (Nat.le_refl _) (Nat.le_refl _) (Nat.le_refl _) (Nat.le_refl _) d _ _ _ _ _ _ (Nat.le_refl _) (Nat.le_refl _) (mg _ _) m4) c4 (fun o ho => hM o (List.mem_append_left _ ho)) g1 w6 w7 (by omega) (by omega)
      refine jq_then q1 (W2 := jW k sc.length b0 b1) (g1 := 3 * (b1 - b0) + 2) (fun S2 o2 p2 => ?_) (by omega) (jW_le (by omega) (Nat.le_refl _) (Nat.le_refl _) (by omega)) (jW_le (Nat.le_refl _) (Nat.le_refl _) (by omega) (Nat.le_refl _))
      obtain ⟨p3, p4⟩ := p2
      have yo : ∀ a, a ≠ 135 → a ≠ 152 → a ≠ 153 → a ≠ 156 → S2.1 a y = S.1 a y := fun a x1 x2 x3 x4 => by
        rw [o2.1 a y (by unfold jW; omega), o1.1 a y (by omega)]
      obtain ⟨S3, f3, g3, o3⟩ := jg_tell (y := y) (s := s') (v := tk_V T n (tr_o t)) p3 (by omega) (by rw [o2.1 152 _ (by unfold jW; omega)]; exact w4) (by rw [o2.1 153 _ (by unfold jW; omega)]; exact w5) hy (by rw [yo 146 (by decide) (by decide) (by decide) (by decide), k4, k5]) c1 (by rw [o2.2.1 142 _ (by unfold jW; omega), o1.2.1 142 _ (by omega)]; exact k8) hl
      refine jq_step f3 (of_mono (fun a b z => by unfold jW; omega) o3) (o3.1 135 10 (by omega)) (W2 := jW k sc.length b0 b1) (g1 := 3 * (b1 - b0) + 1) ?_ (by omega) (fun _ _ z => z)
      have mg3 : ∀ lo' hi', mr_g f lo' hi' al ah 0 16 S2 S3 := fun lo' hi' => jr_p (k := k) (t := 0) (of_mono (fun a b z => by omega) o3)
      have mj3 : ∀ lo' hi', mj_g lo' hi' al ah S2 S3 := fun lo' hi' => jm_p (k := k) (t := 0) (of_mono (fun a b z => by omega) o3)
      have q2 := ih b0 b1 z1 (tr_sub t 1) M2 ((tk_V T n (tr_o t), s') :: sc) (k + 1) S3 (mr_u_m (Nat.le_refl _) (Nat.le_refl _) (Nat.le_refl _) (Nat.le_refl _) d _ _ _ _ _ _ (Nat.le_refl _) (Nat.le_refl _) (mg3 _ _) (mr_u_m (Nat.le_refl _) (Nat.le_refl _) (Nat.le_refl _) (Nat.le_refl _) d _ _ _ _ _ _ (Nat.le_refl _) (Nat.le_refl _) (jr_o o2 (Or.inr (Nat.le_refl _))) (mr_u_m (Nat.le_refl _) (Nat.le_refl _) (Nat.le_refl _) (Nat.le_refl _) d _ _ _ _ _ _ (Nat.le_refl _) (Nat.le_refl _) (mg _ _) m5))) c5 (fun o ho => hM o (List.mem_append_right _ ho)) g3 (by rw [o3.1 152 _ (by omega), o2.1 152 _ (by unfold jW; omega)]; exact w2) (by rw [o3.1 153 _ (by omega), o2.1 153 _ (by unfold jW; omega)]; exact w3) (by omega) (by omega)
      rw [← ps_or_n (o := ps_first (tk_V T n) fs M2)]
      refine jq_then q2 (W2 := jW k sc.length b0 b1) (g1 := 1) (fun S4 o4 p4' => ?_) (by omega) (jW_le (by omega) (Nat.le_succ _) (Nat.le_refl _) (Nat.le_refl _)) (fun _ _ z => z)
      obtain ⟨p5, p6⟩ := p4'
      obtain ⟨S5, f5, g5, o5⟩ := jg_shut p5 hk4 (by rw [o4.1 152 _ (by unfold jW; omega), o3.1 152 _ (by omega), o2.1 152 _ (by unfold jW; omega)]; exact w1)
      have mj5 : ∀ lo' hi', mj_g lo' hi' al ah S4 S5 := fun lo' hi' => jm_p (k := k) (t := 0) (of_mono (fun a b z => by omega) o5)
      have yo5 : ∀ a, a ≠ 135 → a ≠ 152 → a ≠ 153 → a ≠ 156 → S5.1 a y = S.1 a y := fun a x1 x2 x3 x4 => by
        rw [o5.1 a y (by omega), o4.1 a y (by unfold jW; omega), o3.1 a y (by omega), yo a x1 x2 x3 x4]
      refine ⟨1, S5, f5, Nat.le_refl _, of_mono (fun a b z => Or.inl ⟨z.1, by omega⟩) o5, ⟨g5, y1, y2, Or.inr (Or.inr (Or.inl ⟨tr_g_k.trans k1, tr_g_a.trans k2, (yo5 143 (by decide) (by decide) (by decide) (by decide)).trans k3, ?_, ⟨s', c1, ?_⟩, z0, z1, (yo5 144 (by decide) (by decide) (by decide) (by decide)).trans m1, (yo5 145 (by decide) (by decide) (by decide) (by decide)).trans m2, ?_, ?_⟩))⟩, o5.1 135 10 (by omega)⟩
      · rw [yo5 146 (by decide) (by decide) (by decide) (by decide), k4, tr_g_v, if_neg (by rw [k1]; decide)]
      · rw [tr_g_v, if_neg (by rw [k1]; decide), k5]
      · exact mj_t_m (by omega) (by omega) (Nat.le_refl _) (Nat.le_refl _) (mj5 _ _) d z0 _ (mj_t_m (Nat.le_refl _) (Nat.le_refl _) (Nat.le_refl _) (Nat.le_refl _) (jm_o o4 (Or.inl (Nat.le_refl _))) d z0 _ (mj_t_m (Nat.le_refl _) (Nat.le_refl _) (Nat.le_refl _) (Nat.le_refl _) (mj3 _ _) d z0 _ p4))
      · exact mj_t_m (by omega) (by omega) (Nat.le_refl _) (Nat.le_refl _) (mj5 _ _) d z1 _ p6
    · -- IF
      have hc : ∃ M1 M2 M3, M = M1 ++ (M2 ++ M3) ∧ rs_t (tk_V T n) d sc (tr_sub t 0) M1 ∧ rs_t (tk_V T n) d sc (tr_sub t 1) M2 ∧ rs_t (tk_V T n) d sc (tr_sub t 2) M3 := by
        rcases hr with ⟨q, -⟩ | ⟨q, -⟩ | ⟨q, -⟩ | ⟨-, q⟩ | ⟨q, -⟩ | ⟨q | q | q | q | q, -⟩
        · rw [k1] at q; exact absurd q (by decide)
        · rw [k1] at q; exact absurd q (by decide)
        · rw [k1] at q; exact absurd q (by decide)
        · exact q
        all_goals (rw [k1] at q; exact absurd q (by decide))
      obtain ⟨M1, M2, M3, c3, c4, c5, c6⟩ := hc
      subst c3
      rw [ps_first_b, ps_first_b]
      generalize hS1 : ms_p (k + 2) 1 (Int32.ofNat z0) (ms_p (k + 1) 1 (Int32.ofNat z1) (ms_p k 1 (Int32.ofNat z2) S0)) = S1
      have o1 : of_f (fun a b => (a = 135 ∧ b = 35) ∨ (a = 152 ∧ k ≤ b) ∨ (a = 153 ∧ k ≤ b)) S S1 := by
        rw [← hS1]
        exact of_trans (of_trans (of_trans (of_mono (fun a b z => by omega) o0) (of_mono (fun a b z => by unfold mw_p at z; omega) ms_o)) (of_mono (fun a b z => by unfold mw_p at z; omega) ms_o)) (of_mono (fun a b z => by unfold mw_p at z; omega) ms_o)
      have hon : fn_Mo_onJudge (Int32.ofNat y) S0 = some S1 := by
        have q1 : ∀ a, a ≠ 135 → a ≠ 152 → a ≠ 153 → ∀ kk x z (Sx : wd_S), (ms_p kk x z Sx).1 a y = Sx.1 a y := fun a w1 w2 w3 kk x z Sx => ms_o.1 a y (by unfold mw_p; omega)
        have hin2 : ¬(Int32.ofNat y < 0 ∨ 15010 ≤ y) := by rintro (z | z); exact im_neg (by omega) z; omega
        unfold fn_Mo_onJudge fn_Mo_onJudge_382
        rw [if_neg hin, hyt, r0 143 (by decide), k3, if_neg (by decide), if_pos rfl, if_neg hin2, r0 146 (by decide), m3, ms_push e35 hk4, wd_d_s, if_neg hin2, q1 145 (by decide) (by decide) (by decide), r0 145 (by decide), m2, ms_push (t := k + 1) ms_35 (by omega), wd_d_s, if_neg hin2, q1 144 (by decide) (by decide) (by decide), q1 144 (by decide) (by decide) (by decide), r0 144 (by decide), m1, ms_push (t := k + 2) ms_35 (by omega), wd_d_s, hS1]
      have t35 : S1.1 135 35 = Int32.ofNat (k + 2 + 1) := by rw [← hS1]; exact ms_35
      have w1 : S1.1 152 k = 1 := by rw [← hS1, ms_152, if_neg (by omega), ms_152, if_neg (by omega), ms_152, if_pos rfl]
      have w1' : S1.1 153 k = Int32.ofNat z2 := by rw [← hS1, ms_153, if_neg (by omega), ms_153, if_neg (by omega), ms_153, if_pos rfl]
      have w2 : S1.1 152 (k + 1) = 1 := by rw [← hS1, ms_152, if_neg (by omega), ms_152, if_pos rfl]
      have w3 : S1.1 153 (k + 1) = Int32.ofNat z1 := by rw [← hS1, ms_153, if_neg (by omega), ms_153, if_pos rfl]
      have w6 : S1.1 152 (k + 2) = 1 := by rw [← hS1, ms_152, if_pos rfl]
      have w7 : S1.1 153 (k + 2) = Int32.ofNat z0 := by rw [← hS1, ms_153, if_pos rfl]
      clear hS1
      have u0 := mr_u_b m5
      have u1 := mr_u_b m6
      have u2 := mr_u_b m7
      have g1 : jh_g f B fs sc (k + 2 + 1) S1 := jg_u h (of_mono (fun a b z => by omega) o1) t35
      have mg : ∀ lo' hi', mr_g f lo' hi' al ah 0 16 S S1 := fun lo' hi' => jr_p (k := k) (t := 0) (of_mono (fun a b z => by omega) o1)
      refine jq_step (jud S1 hon) (of_mono (fun a b z => by unfold jW; omega) o1) (o1.1 135 10 (by omega)) (W2 := jW k sc.length a0 b2) (g1 := 3 * (b2 - a0)) ?_ (by omega) (jW_le (Nat.le_refl _) (Nat.le_refl _) (by omega) m8)
      have q1 := ih a0 b0 z0 (tr_sub t 0) M1 sc (k + 2) S1 (mr_u_m (Nat.le_refl _) (Nat.le_refl _) (Nat.le_refl _) (Nat.le_refl _) d _ _ _ _ _ _ (Nat.le_refl _) (Nat.le_refl _) (mg _ _) m5) c4 (fun o ho => hM o (List.mem_append_left _ ho)) g1 w6 w7 (by omega) (by omega)
      refine jq_then q1 (W2 := jW k sc.length b0 b2) (g1 := 3 * (b2 - b0)) (fun S2 o2 p2 => ?_) (by omega) (jW_le (by omega) (Nat.le_refl _) (Nat.le_refl _) (by omega)) (jW_le (Nat.le_refl _) (Nat.le_refl _) (by omega) (Nat.le_refl _))
      obtain ⟨p3, p4⟩ := p2
      have q2 := ih b0 b1 z1 (tr_sub t 1) M2 sc (k + 1) S2 (mr_u_m (Nat.le_refl _) (Nat.le_refl _) (Nat.le_refl _) (Nat.le_refl _) d _ _ _ _ _ _ (Nat.le_refl _) (Nat.le_refl _) (jr_o o2 (Or.inr (Nat.le_refl _))) (mr_u_m (Nat.le_refl _) (Nat.le_refl _) (Nat.le_refl _) (Nat.le_refl _) d _ _ _ _ _ _ (Nat.le_refl _) (Nat.le_refl _) (mg _ _) m6)) c5 (fun o ho => hM o (List.mem_append_right _ (List.mem_append_left _ ho))) p3 (by rw [o2.1 152 _ (by unfold jW; omega)]; exact w2) (by rw [o2.1 153 _ (by unfold jW; omega)]; exact w3) (by omega) (by omega)
      refine jq_then q2 (W2 := jW k sc.length b1 b2) (g1 := 3 * (b2 - b1)) (fun S3 o3 p5 => ?_) (by omega) (jW_le (by omega) (Nat.le_refl _) (Nat.le_refl _) (by omega)) (jW_le (Nat.le_refl _) (Nat.le_refl _) (by omega) (Nat.le_refl _))
      obtain ⟨p6, p7⟩ := p5
      have q3 := ih b1 b2 z2 (tr_sub t 2) M3 sc k S3 (mr_u_m (Nat.le_refl _) (Nat.le_refl _) (Nat.le_refl _) (Nat.le_refl _) d _ _ _ _ _ _ (Nat.le_refl _) (Nat.le_refl _) (jr_o o3 (Or.inr (Nat.le_refl _))) (mr_u_m (Nat.le_refl _) (Nat.le_refl _) (Nat.le_refl _) (Nat.le_refl _) d _ _ _ _ _ _ (Nat.le_refl _) (Nat.le_refl _) (jr_o o2 (Or.inr (by omega))) (mr_u_m (Nat.le_refl _) (Nat.le_refl _) (Nat.le_refl _) (Nat.le_refl _) d _ _ _ _ _ _ (Nat.le_refl _) (Nat.le_refl _) (mg _ _) m7))) c6 (fun o ho => hM o (List.mem_append_right _ (List.mem_append_right _ ho))) p6 (by rw [o3.1 152 _ (by unfold jW; omega), o2.1 152 _ (by unfold jW; omega)]; exact w1) (by rw [o3.1 153 _ (by unfold jW; omega), o2.1 153 _ (by unfold jW; omega)]; exact w1') (by omega) (by omega)
      obtain ⟨gg, S4, v1, v2, v3, v4⟩ := q3
      refine ⟨gg, S4, v1, v2, v3, ?_⟩
      cases hq : ps_first (tk_V T n) fs M3 with
      | some e => rw [hq] at v4; exact v4
      | none =>
        rw [hq] at v4
        obtain ⟨⟨p8, p9⟩, p10⟩ := v4
        have yo5 : ∀ a, a ≠ 135 → a ≠ 152 → a ≠ 153 → a ≠ 156 → S4.1 a y = S.1 a y := fun a x1 x2 x3 x4 => by
          rw [v3.1 a y (by unfold jW; omega), o3.1 a y (by unfold jW; omega), o2.1 a y (by unfold jW; omega), o1.1 a y (by omega)]
        refine ⟨⟨p8, y1, y2, Or.inr (Or.inr (Or.inr (Or.inl ⟨tr_g_k.trans k1, tr_g_a.trans k2, (yo5 143 (by decide) (by decide) (by decide) (by decide)).trans k3, z0, z1, z2, (yo5 144 (by decide) (by decide) (by decide) (by decide)).trans m1, (yo5 145 (by decide) (by decide) (by decide) (by decide)).trans m2, (yo5 146 (by decide) (by decide) (by decide) (by decide)).trans m3, ?_, ?_, ?_⟩)))⟩, p10⟩
        · exact mj_t_m (by omega) (by omega) (Nat.le_refl _) (Nat.le_refl _) (jm_o v3 (Or.inl (by omega))) d z0 _ (mj_t_m (Nat.le_refl _) (Nat.le_refl _) (Nat.le_refl _) (Nat.le_refl _) (jm_o o3 (Or.inl (Nat.le_refl _))) d z0 _ p4)
        · exact mj_t_m (by omega) (by omega) (Nat.le_refl _) (Nat.le_refl _) (jm_o v3 (Or.inl (Nat.le_refl _))) d z1 _ p7
        · exact mj_t_m (by omega) (by omega) (Nat.le_refl _) (Nat.le_refl _) ⟨fun _ _ _ => ⟨rfl, rfl, rfl, rfl⟩, fun _ _ _ => rfl⟩ d z2 _ p9
    · -- CALL
      have hc : ∃ Ms : List (List (Nat × Nat)), Ms.length = tr_a t ∧ M = (tr_o t, tr_a t + 1) :: Ms.flatten ∧ ∀ j, (hj : j < Ms.length) → rs_t (tk_V T n) d sc (tr_sub t j) Ms[j] := by
        rcases hr with ⟨q, -⟩ | ⟨q, -⟩ | ⟨q, -⟩ | ⟨q, -⟩ | ⟨-, q⟩ | ⟨q | q | q | q | q, -⟩
        · rw [k1] at q; exact absurd q (by decide)
        · rw [k1] at q; exact absurd q (by decide)
        · rw [k1] at q; exact absurd q (by decide)
        · rw [k1] at q; exact absurd q (by decide)
        · exact q
        all_goals (rw [k1] at q; exact absurd q (by decide))
      obtain ⟨Ms, c1, c2, c3⟩ := hc
      subst c2
      have hk3 : S0.1 143 y = 8 := (r0 143 (by decide)).trans k2
      have hto : tr_o t < 2147483648 := hM (tr_o t, tr_a t + 1) List.mem_cons_self
      obtain ⟨S1, f1, o1, r1⟩ := jn_call (V := tk_V T n) (o := tr_o t) (p := tk_p T n (tr_o t)) (g := g) (a := tr_a t) h0 hy hk3 ((o0.2.1 148 y (by omega)).trans k3) ((r0 147 (by decide)).trans k4) ((r0 144 (by decide)).trans m1) ((r0 145 (by decide)).trans k6) (by omega) (by omega)
      have O1 : of_f (fun a' b => (a' = 135 ∧ (b = 9 ∨ b = 10 ∨ b = 35)) ∨ (a' = 146 ∧ b = y) ∨ (a' = 152 ∧ k ≤ b) ∨ (a' = 153 ∧ k ≤ b)) S S1 := of_trans (of_mono (fun a b z => by omega) o0) o1
      show jq T n _ _ (ps_or (ps_bad (tk_V T n) fs (tr_o t, tr_a t + 1)) (ps_first (tk_V T n) fs Ms.flatten)) _ S
      cases hb : ps_bad (tk_V T n) fs (tr_o t, tr_a t + 1) with
      | some e =>
        rw [hb] at r1
        obtain ⟨v1, v2, v3, v4⟩ := r1
        exact ⟨1, S1, jud S1 f1, by omega, of_mono (fun a b z => by unfold jW; omega) O1, v2, v3, by rw [v1]; exact v4⟩
      | none =>
        rw [hb] at r1
        obtain ⟨v0, v1, v2, v3, j, v4, v5, v6, v7⟩ := r1
        show jq T n _ _ (ps_first (tk_V T n) fs Ms.flatten) _ S
        have e149 : ∀ b, S0.1 149 b = S.1 149 b := fun b => o0.1 149 b (by omega)
        have e149' : ∀ b, S1.1 149 b = S.1 149 b := fun b => O1.1 149 b (by omega)
        have hrg : ∀ i, i < tr_a t → rg i < rg (i + 1) := fun i hi => by
          obtain ⟨z, -, u⟩ := m6 i hi
          have := mr_u_b u
          omega
        have hmo := mr_mono hrg
        have hra := (hmo (tr_a t) (Nat.le_refl _)).1
        have g1 : jh_g f B fs sc (k + tr_a t) S1 := jg_v h0 (of_mono (fun a b z => by omega) o1) v1 v2
        refine jq_step (jud S1 f1) (of_mono (fun a b z => by unfold jW; omega) O1) (v0.trans (o0.1 135 10 (by omega))) (W2 := jW k sc.length (rg 0) (rg (tr_a t))) (g1 := 3 * (rg (tr_a t) - rg 0)) ?_ (by omega) (jW_le (Nat.le_refl _) (Nat.le_refl _) (by omega) m5)
        have q1 := jt_args (k := k) (g := g) (a := tr_a t) (rg := rg) (t := t) (Ms := Ms) (al := al) (ah := ah) ih hrg (by omega) c1 c3 (fun o ho => hM o (List.mem_cons_of_mem _ ho)) (by omega) (tr_a t) 0 S1 (by omega) g1 (fun i hi => ⟨(v3 i hi).1, by rw [(v3 i hi).2, e149, e149']⟩) (fun i _ hi => by
          obtain ⟨z, u1, u2⟩ := m6 i hi
          have b1 := mr_u_b u2
          have b2 := hmo i (by omega)
          refine ⟨z, (e149' _).trans u1, mr_u_m (Nat.le_refl _) (Nat.le_refl _) (Nat.le_refl _) (Nat.le_refl _) d _ _ _ _ _ _ (Nat.le_refl _) (Nat.le_refl _) ?_ u2⟩
          refine ⟨fun x x1 x2 => ⟨O1.1 _ _ ?_, O1.1 _ _ ?_, O1.1 _ _ ?_, O1.1 _ _ ?_, O1.1 _ _ ?_, O1.2.1 _ _ ?_⟩, fun x _ _ => O1.1 _ _ ?_, fun x _ _ => O1.2.1 _ _ ?_⟩ <;> omega) (fun i hi => absurd hi (Nat.not_lt_zero _))
        obtain ⟨gg, S4, w1, w2, w3, w4⟩ := q1
        refine ⟨gg, S4, w1, w2, w3, ?_⟩
        have w4 : (match ps_first (tk_V T n) fs Ms.flatten with
          | some e => mt_e T n e S4
          | none => _) := w4
        cases hq : ps_first (tk_V T n) fs Ms.flatten with
        | some e => rw [hq] at w4; exact w4
        | none =>
          rw [hq] at w4
          obtain ⟨⟨p8, p9⟩, p10⟩ := w4
          have yo4 : ∀ a, 143 ≤ a → a ≤ 147 → S4.1 a y = S1.1 a y := fun a x1 x2 => w3.1 a y (by unfold jW; omega)
          have yo1 : ∀ a, 143 ≤ a → a ≤ 145 → S4.1 a y = S.1 a y := fun a x1 x2 => by rw [yo4 a (by omega) (by omega), O1.1 a y (by omega)]
          refine ⟨⟨p8, y1, y2, Or.inr (Or.inr (Or.inr (Or.inr (Or.inl ⟨tr_g_k.trans k1, (yo1 143 (by omega) (by omega)).trans k2, ?_, ?_, ⟨j, ?_, ?_⟩, g, (yo1 144 (by omega) (by omega)).trans m1, m2, ?_, fun i hi => ?_⟩))))⟩, p10⟩
          · rw [yo1 145 (by omega) (by omega), k6, tr_g_a]
          · rw [tr_g_a]; exact v7
          · rw [tr_g_v, if_pos k1, k5]
            unfold ld_G
            rw [im_t hto, v4]
          · rw [yo4 146 (by omega) (by omega)]; exact v6
          · rw [tr_g_a]; exact m3
          · rw [tr_g_a] at hi
            obtain ⟨z, u1, u2⟩ := p9 i hi
            have b2 := hmo i (by omega)
            have b3 := hmo (i + 1) (by omega)
            exact ⟨z, u1, mj_t_m (by omega) (by omega) (Nat.le_refl _) (Nat.le_refl _) ⟨fun _ _ _ => ⟨rfl, rfl, rfl, rfl⟩, fun _ _ _ => rfl⟩ d z _ u2⟩
    · -- two
      have hc : ∃ M1 M2, M = M1 ++ M2 ∧ rs_t (tk_V T n) d sc (tr_sub t 0) M1 ∧ rs_t (tk_V T n) d sc (tr_sub t 1) M2 := by
        rcases hr with ⟨q, -⟩ | ⟨q, -⟩ | ⟨q, -⟩ | ⟨q, -⟩ | ⟨q, -⟩ | ⟨-, q⟩
        · rw [q] at k0; exact absurd k0 (by decide)
        · rw [q] at k0; exact absurd k0 (by decide)
        · rw [q] at k0; exact absurd k0 (by decide)
        · rw [q] at k0; exact absurd k0 (by decide)
        · rw [q] at k0; exact absurd k0 (by decide)
        · exact q
      obtain ⟨M1, M2, c3, c4, c5⟩ := hc
      subst c3
      have n5 : ¬tr_k t = 5 := fun q => by rw [q] at k0; exact absurd k0 (by decide)
      rw [ps_first_b]
      generalize hS1 : ms_p (k + 1) 1 (Int32.ofNat z0) (ms_p k 1 (Int32.ofNat z1) S0) = S1
      have o1 : of_f (fun a b => (a = 135 ∧ b = 35) ∨ (a = 152 ∧ k ≤ b) ∨ (a = 153 ∧ k ≤ b)) S S1 := by
        rw [← hS1]
        exact of_trans (of_trans (of_mono (fun a b z => by omega) o0) (of_mono (fun a b z => by unfold mw_p at z; omega) ms_o)) (of_mono (fun a b z => by unfold mw_p at z; omega) ms_o)
      have hon : fn_Mo_onJudge (Int32.ofNat y) S0 = some S1 := by
        have q1 : ∀ a, a ≠ 135 → a ≠ 152 → a ≠ 153 → ∀ kk x z (Sx : wd_S), (ms_p kk x z Sx).1 a y = Sx.1 a y := fun a w1 w2 w3 kk x z Sx => ms_o.1 a y (by unfold mw_p; omega)
        have hin2 : ¬(Int32.ofNat y < 0 ∨ 15010 ≤ y) := by rintro (z | z); exact im_neg (by omega) z; omega
        unfold fn_Mo_onJudge fn_Mo_onJudge_382
        rw [if_neg hin, hyt, r0 143 (by decide), k3, if_pos rfl, if_neg hin2, r0 145 (by decide), m2, ms_push e35 hk4, wd_d_s, if_neg hin2, q1 144 (by decide) (by decide) (by decide), r0 144 (by decide), m1, ms_push (t := k + 1) ms_35 (by omega), wd_d_s, hS1]
      have t35 : S1.1 135 35 = Int32.ofNat (k + 1 + 1) := by rw [← hS1]; exact ms_35
      have w1 : S1.1 152 k = 1 := by rw [← hS1, ms_152, if_neg (by omega), ms_152, if_pos rfl]
      have w1' : S1.1 153 k = Int32.ofNat z1 := by rw [← hS1, ms_153, if_neg (by omega), ms_153, if_pos rfl]
      have w6 : S1.1 152 (k + 1) = 1 := by rw [← hS1, ms_152, if_pos rfl]
      have w7 : S1.1 153 (k + 1) = Int32.ofNat z0 := by rw [← hS1, ms_153, if_pos rfl]
      clear hS1
      have u0 := mr_u_b m4
      have u1 := mr_u_b m5
      have g1 : jh_g f B fs sc (k + 1 + 1) S1 := jg_u h (of_mono (fun a b z => by omega) o1) t35
      have mg : ∀ lo' hi', mr_g f lo' hi' al ah 0 16 S S1 := fun lo' hi' => jr_p (k := k) (t := 0) (of_mono (fun a b z => by omega) o1)
      refine jq_step (jud S1 hon) (of_mono (fun a b z => by unfold jW; omega) o1) (o1.1 135 10 (by omega)) (W2 := jW k sc.length a0 b1) (g1 := 3 * (b1 - a0)) ?_ (by omega) (jW_le (Nat.le_refl _) (Nat.le_refl _) (by omega) (by omega))
      have q1 := ih a0 b0 z0 (tr_sub t 0) M1 sc (k + 1) S1 (mr_u_m (Nat.le_refl _) (Nat.le_refl _) (Nat.le_refl _) (Nat.le_refl _) d _ _ _ _ _ _ (Nat.le_refl _) (Nat.le_refl _) (mg _ _) m4) c4 (fun o ho => hM o (List.mem_append_left _ ho)) g1 w6 w7 (by omega) (by omega)
      refine jq_then q1 (W2 := jW k sc.length b0 b1) (g1 := 3 * (b1 - b0)) (fun S2 o2 p2 => ?_) (by omega) (jW_le (by omega) (Nat.le_refl _) (Nat.le_refl _) (by omega)) (jW_le (Nat.le_refl _) (Nat.le_refl _) (by omega) (Nat.le_refl _))
      obtain ⟨p3, p4⟩ := p2
      have q2 := ih b0 b1 z1 (tr_sub t 1) M2 sc k S2 (mr_u_m (Nat.le_refl _) (Nat.le_refl _) (Nat.le_refl _) (Nat.le_refl _) d _ _ _ _ _ _ (Nat.le_refl _) (Nat.le_refl _) (jr_o o2 (Or.inr (Nat.le_refl _))) (mr_u_m (Nat.le_refl _) (Nat.le_refl _) (Nat.le_refl _) (Nat.le_refl _) d _ _ _ _ _ _ (Nat.le_refl _) (Nat.le_refl _) (mg _ _) m5)) c5 (fun o ho => hM o (List.mem_append_right _ ho)) p3 (by rw [o2.1 152 _ (by unfold jW; omega)]; exact w1) (by rw [o2.1 153 _ (by unfold jW; omega)]; exact w1') (by omega) (by omega)
      obtain ⟨gg, S4, v1, v2, v3, v4⟩ := q2
      refine ⟨gg, S4, v1, v2, v3, ?_⟩
      cases hq : ps_first (tk_V T n) fs M2 with
      | some e => rw [hq] at v4; exact v4
      | none =>
        rw [hq] at v4
        obtain ⟨⟨p8, p9⟩, p10⟩ := v4
        have yo5 : ∀ a, a ≠ 135 → a ≠ 152 → a ≠ 153 → a ≠ 156 → S4.1 a y = S.1 a y := fun a x1 x2 x3 x4 => by
          rw [v3.1 a y (by unfold jW; omega), o2.1 a y (by unfold jW; omega), o1.1 a y (by omega)]
        refine ⟨⟨p8, y1, y2, Or.inr (Or.inr (Or.inr (Or.inr (Or.inr ⟨by rw [tr_g_k]; exact k0, tr_g_a.trans k2, (yo5 143 (by decide) (by decide) (by decide) (by decide)).trans k3, by rw [yo5 146 (by decide) (by decide) (by decide) (by decide), tr_g_k]; exact k4, z0, z1, (yo5 144 (by decide) (by decide) (by decide) (by decide)).trans m1, (yo5 145 (by decide) (by decide) (by decide) (by decide)).trans m2, ?_, ?_⟩))))⟩, p10⟩
        · exact mj_t_m (by omega) (by omega) (Nat.le_refl _) (Nat.le_refl _) (jm_o v3 (Or.inl (Nat.le_refl _))) d z0 _ p4
        · exact mj_t_m (by omega) (by omega) (Nat.le_refl _) (Nat.le_refl _) ⟨fun _ _ _ => ⟨rfl, rfl, rfl, rfl⟩, fun _ _ _ => rfl⟩ d z1 _ p9
end Jt
