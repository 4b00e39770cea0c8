/-! The reference's maker: calls, whole. -/
section Mma
variable {B h : Nat} {pg : pg_T} {S0 S S' S1 S2 S3 S9 : wd_S} {N N' : mk_N} {s s' : mk_S} {k n mn ma ml k' n' mn' ma' ml' mn1 ma1 ml1 y z d r c p i f m a K : Nat} {t : tr_T} {x v : Int32} {R : mk_R} {kn : Nat → Int32} {as : List mk_R}
theorem mm_hf {W : Nat → Nat → Prop} (hh : mm_h B h pg S0 N s k n mn ma ml S) (ho : of_f W S S') (hF : ∀ a b, W a b → mm_F B 0 0 0 0 a b) (hW : ∀ a b, W a b → (a = 135 → b < 65) ∧ a ≠ 169 ∧ a ≠ 170 ∧ ¬(159 ≤ a ∧ a ≤ 161)) : mm_h B h pg S0 N s k n mn ma ml S' := by
  obtain ⟨a1, a2, a3, a4, a5, a6, a7, a8, a9, a10, a11, a12, a13, a14, a15⟩ := hh
  have e : ∀ b, 65 ≤ b → S'.1 135 b = S.1 135 b := fun b hb => ho.1 135 b (fun q => by have := (hW _ _ q).1 rfl; omega)
  refine ⟨of_trans a1 (of_mono hF ho), by rw [e 66 (by omega)]; exact a2, by rw [e 67 (by omega)]; exact a3, by rw [e 68 (by omega)]; exact a4, by rw [e 69 (by omega)]; exact a5, by rw [e 70 (by omega)]; exact a6, by rw [e 71 (by omega)]; exact a7, by rw [e 73 (by omega)]; exact a8, by rw [e 76 (by omega)]; exact a9, by rw [e 79 (by omega)]; exact a10, a11, a12, a13, fun i q hi => ?_, by rw [e 65 (by omega)]; exact a15.1, a15.2.1, fun j hj => ?_⟩
  · obtain ⟨b1, b2, b3, b4⟩ := a14 i q hi
    exact ⟨b1, by rw [ho.1 169 i (fun q => (hW _ _ q).2.1 rfl)]; exact b2, by rw [ho.1 170 i (fun q => (hW _ _ q).2.2.1 rfl)]; exact b3, b4⟩
  · obtain ⟨b1, b2, b3⟩ := a15.2.2 j hj
    exact ⟨by rw [ho.1 159 _ (fun q => (hW _ _ q).2.2.2 (by omega))]; exact b1, by rw [ho.1 160 _ (fun q => (hW _ _ q).2.2.2 (by omega))]; exact b2, fun i hi => by rw [ho.1 161 _ (fun q => (hW _ _ q).2.2.2 (by omega))]; exact b3 i hi⟩
theorem mm_68 (hh : mm_h B h pg S0 N s k n mn ma ml S) : mm_h B h pg S0 N (s.1, s.2.1, s.2.2.1 + 1, s.2.2.2) k n mn ma ml (wd_i S 135 68 (Int32.ofNat (s.2.2.1 + 1))) := by
  obtain ⟨a1, a2, a3, a4, a5, a6, a7, a8, a9, a10, a11, a12, a13, a14, a15⟩ := hh
  have e : ∀ b, b ≠ 68 → (wd_i S 135 68 (Int32.ofNat (s.2.2.1 + 1))).1 135 b = S.1 135 b := fun b hb => fr_ne (by omega)
  have f : ∀ a b, a ≠ 135 → (wd_i S 135 68 (Int32.ofNat (s.2.2.1 + 1))).1 a b = S.1 a b := fun a b hb => fr_ne (by omega)
  refine ⟨of_trans a1 (of_i (Or.inl ⟨rfl, by omega⟩) of_refl), by rw [e 66 (by decide)]; exact a2, by rw [e 67 (by decide)]; exact a3, fr_eq, by rw [e 69 (by decide)]; exact a5, by rw [e 70 (by decide)]; exact a6, by rw [e 71 (by decide)]; exact a7, by rw [e 73 (by decide)]; exact a8, by rw [e 76 (by decide)]; exact a9, by rw [e 79 (by decide)]; exact a10, a11, a12, a13, fun i q hi => ?_, by rw [e 65 (by decide)]; exact a15.1, a15.2.1, fun j hj => ?_⟩
  · obtain ⟨b1, b2, b3, b4⟩ := a14 i q hi
    exact ⟨b1, by rw [f 169 i (by decide)]; exact b2, by rw [f 170 i (by decide)]; exact b3, b4⟩
  · obtain ⟨b1, b2, b3⟩ := a15.2.2 j hj
    exact ⟨by rw [f 159 _ (by decide)]; exact b1, by rw [f 160 _ (by decide)]; exact b2, fun i hi => by rw [f 161 _ (by decide)]; exact b3 i hi⟩
theorem mm_69 (hh : mm_h B h pg S0 N s k n mn ma ml S) : mm_h B h pg S0 N (s.1, s.2.1, s.2.2.1, s.2.2.2 + 1) k n mn ma ml (wd_i S 135 69 (Int32.ofNat (s.2.2.2 + 1))) := by
  obtain ⟨a1, a2, a3, a4, a5, a6, a7, a8, a9, a10, a11, a12, a13, a14, a15⟩ := hh
  have e : ∀ b, b ≠ 69 → (wd_i S 135 69 (Int32.ofNat (s.2.2.2 + 1))).1 135 b = S.1 135 b := fun b hb => fr_ne (by omega)
  have f : ∀ a b, a ≠ 135 → (wd_i S 135 69 (Int32.ofNat (s.2.2.2 + 1))).1 a b = S.1 a b := fun a b hb => fr_ne (by omega)
  refine ⟨of_trans a1 (of_i (Or.inl ⟨rfl, by omega⟩) of_refl), by rw [e 66 (by decide)]; exact a2, by rw [e 67 (by decide)]; exact a3, by rw [e 68 (by decide)]; exact a4, fr_eq, by rw [e 70 (by decide)]; exact a6, by rw [e 71 (by decide)]; exact a7, by rw [e 73 (by decide)]; exact a8, by rw [e 76 (by decide)]; exact a9, by rw [e 79 (by decide)]; exact a10, a11, a12, a13, fun i q hi => ?_, by rw [e 65 (by decide)]; exact a15.1, a15.2.1, fun j hj => ?_⟩
  · obtain ⟨b1, b2, b3, b4⟩ := a14 i q hi
    exact ⟨b1, by rw [f 169 i (by decide)]; exact b2, by rw [f 170 i (by decide)]; exact b3, b4⟩
  · obtain ⟨b1, b2, b3⟩ := a15.2.2 j hj
    exact ⟨by rw [f 159 _ (by decide)]; exact b1, by rw [f 160 _ (by decide)]; exact b2, fun i hi => by rw [f 161 _ (by decide)]; exact b3 i hi⟩
theorem mm_gP (hX : mm_X B h pg S0) (hh : of_f (mm_F B 0 0 0 0) S0 S) : mg_P (48 * h) (1501 * h) (1501 * h + 1500) (1501 * h) (1501 * h + 1500) 96 140 96 (pg_P pg) S := fun j hj => by
  have hj2 : j < pg.length := by unfold pg_P at hj; rw [List.length_map] at hj; exact hj
  obtain ⟨-, -, -, y, e1, e2⟩ := hX.2.2.2.1 j hj2
  have hh1 := hX.2.1
  have hpl := hX.2.2.2.2.1
  refine ⟨by omega, y, by rw [hh.1 140 _ (by unfold mm_F; omega)]; exact e1, ?_⟩
  rw [show (pg_P pg)[j] = pg[j].2.1 from List.getElem_map _]
  exact mm_txt hX hh e2
theorem mm_X_F {k0 n0 mn0 ma0 : Nat} : ∀ a b, mgX a b → mm_F B k0 n0 mn0 ma0 a b := fun a b q => by
  unfold mgX at q
  rcases q with q | q | q | q | q
  · exact Or.inl ⟨q.1, by omega⟩
  · exact Or.inr (Or.inr (Or.inr (Or.inl q)))
  · exact Or.inr (Or.inr (Or.inr (Or.inr (Or.inl q))))
  · exact Or.inr (Or.inr (Or.inr (Or.inr (Or.inr (Or.inl q)))))
  · exact Or.inr (Or.inr (Or.inr (Or.inr (Or.inr (Or.inr (Or.inl q))))))
theorem mm_171_F {k0 n0 mn0 ma0 : Nat} : ∀ a b, a = 171 → mm_F B k0 n0 mn0 ma0 a b := fun a b q => Or.inr (Or.inr (Or.inr (Or.inr (Or.inr (Or.inr (Or.inr (Or.inr (Or.inr (Or.inr (Or.inr ⟨by omega, by omega⟩))))))))))
theorem mm_158_F {k0 n0 mn0 ma0 : Nat} : ∀ a b, a = 158 → mm_F B k0 n0 mn0 ma0 a b := fun a b q => Or.inr (Or.inr (Or.inr (Or.inr (Or.inr (Or.inr (Or.inl q))))))
/-- CALLED -/
theorem mm_called (hX : mm_X B h pg S0) (hh : mm_h B h pg S0 N s (k + 1) (n + as.length) mn1 ma1 ml1 S) (hk : k < 4000) (hn : n + 4 ≤ 4000) (h165 : S.1 165 k = 7) (h166 : S.1 166 k = Int32.ofNat y) (hy : y < 3004) (ha : as.length ≤ 4) (h145 : S.1 145 y = Int32.ofNat as.length) (hf : f < pg.length) (h146 : S.1 146 y = Int32.ofNat (48 * h + f)) (hl : as.length = pg_n pg f) (hr : 1 ≤ r ∨ as.length = 0) (rs : ∀ j, (hj : j < as.length) → mm_r B mn1 ma1 r (n + j) as[j] S) (nn : ∀ R, R ∈ as → mk_nn R) (hmn : mn1 = mn + mm_nzs as) (hma : ma1 + as.length ≤ mm_nzs as + ma + mm_is as) (hma0 : ma ≤ ma1) (hml : ml1 = ml + mk_lt as) (hb : mn + 1 + mk_sz as ≤ 1000) (hmam : ma ≤ mn) (hc : c + 1 ≤ 3 * s.2.1) : mm_O B h pg S0 (r + 1) k n mn ma ml c (mk_b (mk_call (pg_P pg) f as s) fun w => .ok (w.1, N, w.2)) S := by
  have hB := hX.1
  have hh1 := hX.2.1
  have hpl := hX.2.2.2.2.1
  have hpn := hX.2.2.2.2.2 f
  have h1 := mm_pop_h hh
  have h2 : mm_h B h pg S0 N s k n mn1 ma1 ml1 (wd_i (wd_i S 135 76 (Int32.ofNat k)) 135 79 (Int32.ofNat n)) := mm_h_79 h1
  have e145 : (wd_i S 135 76 (Int32.ofNat k)).1 145 y = Int32.ofNat as.length := by rw [fr_ne (by omega)]; exact h145
  have e79 : (wd_i S 135 76 (Int32.ofNat k)).1 135 79 - Int32.ofNat as.length = Int32.ofNat n := by
    rw [h1.2.2.2.2.2.2.2.2.2.1]
    exact im_sb n as.length
  have q79 : (wd_i (wd_i S 135 76 (Int32.ofNat k)) 135 79 (Int32.ofNat n)).1 135 79 = Int32.ofNat n := fr_eq
  have o2 : ∀ k0 n0 mn0 ma0, of_f (mm_F B k0 n0 mn0 ma0) S (wd_i (wd_i S 135 76 (Int32.ofNat k)) 135 79 (Int32.ofNat n)) := fun k0 n0 mn0 ma0 => of_i (Or.inl ⟨rfl, by omega⟩) (of_i (Or.inl ⟨rfl, by omega⟩) of_refl)
  have y146 : (wd_i (wd_i S 135 76 (Int32.ofNat k)) 135 79 (Int32.ofNat n)).1 146 y = Int32.ofNat (48 * h + f) := by rw [fr_ne (by omega), fr_ne (by omega)]; exact h146
  have ep : ∀ S', fn_Mo_onMaking 7 (Int32.ofNat y) (wd_i S 135 76 (Int32.ofNat k)) = some S' → mm_go 1 S S' := fun S' q => mm_pop hh hk (by rw [h165, h166]; exact q)
  have ef : fn_Mo_onMaking 7 (Int32.ofNat y) (wd_i S 135 76 (Int32.ofNat k)) = fn_Mo_onCalled_28 wd_F (Int32.ofNat y) (Int32.ofNat as.length) (Int32.ofNat n) 0 0 (wd_i (wd_i S 135 76 (Int32.ofNat k)) 135 79 (Int32.ofNat n)) := by
    unfold fn_Mo_onMaking
    rw [if_neg (show ¬(7 : Int32) = 1 by decide), if_neg (show ¬(7 : Int32) = 2 by decide), if_neg (show ¬(7 : Int32) = 3 by decide), if_neg (show ¬(7 : Int32) = 4 by decide), if_neg (show ¬(7 : Int32) = 5 by decide), if_neg (show ¬(7 : Int32) = 6 by decide)]
    unfold fn_Mo_onCalled fn_Mo_onMaking_566
    simp only [wd_b, wd_d_id]
    rw [if_neg (ms_in (show y < 15010 by omega) (by decide)), im_t (show y < 2147483648 by omega), e145, e79, q79]
  rw [ef] at ep
  clear ef
  generalize wd_i (wd_i S 135 76 (Int32.ofNat k)) 135 79 (Int32.ofNat n) = S2 at *
  have rs2 : ∀ j, (hj : j < as.length) → mm_r B mn1 ma1 r (n + j) as[j] S2 := fun j hj => mm_r_o (o2 0 4000 mn1 ma1) (by omega) (Nat.le_refl _) (Nat.le_refl _) (rs j hj)
  obtain ⟨S3, f3, o3, w3⟩ := mc_28 (as := as) (S := S2) (y := y) hn ha (fun j hj => by
    rcases rs2 j hj with ⟨q1, q2, -⟩ | ⟨q1, q2, -⟩
    · rw [q2]; exact ⟨fun z => absurd z (by decide), fun z => absurd q1 z⟩
    · exact ⟨fun _ => q1, fun _ => q2⟩) as.length 0 (999999 - as.length) S2 (Nat.zero_add _) of_refl (fun j hj => absurd hj (Nat.not_lt_zero _))
  rw [show 999999 - as.length + 1 + as.length = wd_F by rw [show wd_F = 1000000 from rfl]; omega] at f3
  have f3 : fn_Mo_onCalled_28 wd_F (Int32.ofNat y) (Int32.ofNat as.length) (Int32.ofNat n) 0 0 S2 = _ := f3
  rw [f3] at ep
  clear f3
  have h3 := mm_hf h2 o3 mm_171_F (fun a b q => by omega)
  have o23 : ∀ k0 n0 mn0 ma0, of_f (mm_F B k0 n0 mn0 ma0) S S3 := fun k0 n0 mn0 ma0 => of_trans (o2 k0 n0 mn0 ma0) (of_mono mm_171_F o3)
  have rs3 : ∀ j, (hj : j < as.length) → mm_r B mn1 ma1 r (n + j) as[j] S3 := fun j hj => mm_r_o (o23 0 4000 mn1 ma1) (by omega) (Nat.le_refl _) (Nat.le_refl _) (rs j hj)
  have y3 : S3.1 146 y = Int32.ofNat (48 * h + f) := by rw [o3.1 146 y (by omega)]; exact y146
  have kn3 : ∀ j, j < as.length → mk_nb as j = true → S3.1 171 j = mk_kn as j := fun j hj hnb => by
    unfold mk_nb at hnb
    unfold mk_kn
    have em : mk_at as j = as[j] := by unfold mk_at; rw [List.getD_eq_getElem?_getD, List.getElem?_eq_getElem hj]; rfl
    rw [em] at hnb ⊢
    rw [w3 j hj]
    rcases rs2 j hj with ⟨q1, q2, q3, -⟩ | ⟨q1, -⟩
    · exact q3
    · exact absurd (of_decide_eq_true hnb) q1
  have hm2 : mk_ma as < 2 ^ as.length := mk_mk_lt _ _
  have hp16 : 2 ^ as.length ≤ 2 ^ 4 := Nat.pow_le_pow_right (by decide) ha
  unfold mk_call
  by_cases e : mk_ma as = 2 ^ as.length - 1
  · have hall : ∀ i, i < as.length → mk_nb as i = true := (mk_mk_all _ _).mp e
    have hnum := mm_alln hall
    obtain ⟨z1, z2, z3⟩ := mm_all0 as hnum nn
    have em : mn1 = mn := by omega
    have ea : ma1 = ma := by omega
    have el : ml1 = ml := by omega
    rw [if_pos (show Int32.ofNat (mk_ma as) = Int32.ofNat (2 ^ as.length - 1) by rw [e])] at ep
    rw [if_pos e]
    obtain ⟨S4, f4, o4, w4⟩ := mc_94 (S := S3) (y := y) (m := Int32.ofNat (mk_ma as)) hn ha as.length 0 (999999 - as.length) S3 (Nat.zero_add _) of_refl (fun j hj => absurd hj (Nat.not_lt_zero _))
    rw [show 999999 - as.length + 1 + as.length = wd_F by rw [show wd_F = 1000000 from rfl]; omega] at f4
    have f4 : fn_Mo_onCalled_94 wd_F (Int32.ofNat y) (Int32.ofNat as.length) (Int32.ofNat n) (Int32.ofNat (mk_ma as)) 0 S3 = _ := f4
    have h4 := mm_hf h3 o4 mm_158_F (fun a b q => by omega)
    have y4 : S4.1 146 y = Int32.ofNat (48 * h + f) := by rw [o4.1 146 y (by omega)]; exact y3
    rw [f4, fn_Mo_onCalled_94, if_neg Int32.lt_irrefl] at ep
    simp only [wd_b] at ep
    rw [h4.2.2.2.1, im_s] at ep
    have h5 := mm_68 h4
    have o5 : of_f (fun a b => a = 135 ∧ b = 68) S4 (wd_i S4 135 68 (Int32.ofNat (s.2.2.1 + 1))) := of_i ⟨rfl, rfl⟩ of_refl
    generalize wd_i S4 135 68 (Int32.ofNat (s.2.2.1 + 1)) = S5 at *
    have o45 : ∀ k0 n0 mn0 ma0, of_f (mm_F B k0 n0 mn0 ma0) S S5 := fun k0 n0 mn0 ma0 => of_trans (o23 k0 n0 mn0 ma0) (of_trans (of_mono mm_158_F o4) (of_mono (fun a b q => Or.inl ⟨q.1, by omega⟩) o5))
    have y5 : S5.1 146 y = Int32.ofNat (48 * h + f) := by rw [o5.1 146 y (by omega)]; exact y4
    have gP := mm_gP hX h5.1
    have hfl : f < (pg_P pg).length := by unfold pg_P; rw [List.length_map]; exact hf
    obtain ⟨-, yb, e1, e2⟩ := gP f hfl
    have hv : me_e 0 (ev_l (as.map (fun a => tr_v a.1))) S5 := fun i v hi => by
      unfold ev_l at hi
      obtain ⟨q1, q2⟩ := List.getElem?_eq_some_iff.mp hi
      have q1' : i < as.length := by rw [List.length_map] at q1; exact q1
      refine ⟨by omega, ?_⟩
      rw [show 16 * 0 + i = i by omega, o5.1 158 i (by omega), w4 i q1', o3.1 168 (n + i) (by omega)]
      rcases rs2 i q1' with ⟨p1, p2, p3, -⟩ | ⟨p1, -⟩
      · rw [p3, ← q2, List.getElem_map]
      · exact absurd (hnum _ (List.getElem_mem q1')) p1
    have hgo := mo_goes (lim := 500) (V := ev_l (as.map (fun a => tr_v a.1))) (show mg_R (1501 * h) (1501 * h + 1500) (1501 * h + 1500) 140 96 from ⟨Or.inl ⟨rfl, by omega, rfl⟩, by omega⟩) gP e2 hv (by decide)
    rw [if_neg (ms_in (show y < 15010 by omega) (by decide)), im_t (show y < 2147483648 by omega), y5, if_neg (ms_in (show 48 * h + f < 96 by omega) (by decide)), im_t (show 48 * h + f < 2147483648 by omega), e1] at ep
    rw [show (pg_P pg).getD f tr_z = (pg_P pg)[f] by rw [List.getD_eq_getElem?_getD, List.getElem?_eq_getElem hfl]; rfl]
    cases hq : ev (pg_P pg) 500 160 (ev_l (as.map (fun a => tr_v a.1))) 0 0 (pg_P pg)[f] with
    | error er =>
      cases er with
      | none => trivial
      | some er =>
        rw [hq] at hgo
        obtain ⟨S6, k1, -, -, -, k5⟩ := hgo
        have k1 : fn_Mo_goes (Int32.ofNat yb) 500 S5 = some (er.1, S6) := k1
        have hne : ¬er.1 = 1 := by rcases ev_er _ _ _ _ _ _ hq with z | z <;> rw [z] <;> decide
        rw [k1, wd_c_s, if_neg hne] at ep
        have h6 := mm_hf h5 k5 mm_X_F (fun a b q => by unfold mgX at q; omega)
        have o6 : ∀ k0 n0 mn0 ma0, of_f (mm_F B k0 n0 mn0 ma0) S S6 := fun k0 n0 mn0 ma0 => of_trans (o45 k0 n0 mn0 ma0) (of_mono mm_X_F k5)
        exact mm_174 (s := (s.1, s.2.1, s.2.2.1 + 1, s.2.2.2)) hX h6 hn ha hr hy hf (by rw [k5.1 146 y (by unfold mgX; omega)]; exact y5) hl (fun j hj => mm_r_o (o6 0 4000 mn1 ma1) (by omega) (Nat.le_refl _) (Nat.le_refl _) (rs j hj)) nn (fun j q1 q2 => by rw [k5.1 171 j (by unfold mgX; omega), o5.1 171 j (by omega), o4.1 171 j (by omega)]; exact kn3 j q1 q2) hmn hma hma0 hml hb hmam (o6 k n mn ma) ep hc
    | ok q =>
      rw [hq] at hgo
      obtain ⟨S6, k1, k2, -, -, k5⟩ := hgo
      have k1 : fn_Mo_goes (Int32.ofNat yb) 500 S5 = some (1, S6) := k1
      have h6 := mm_hf h5 k5 mm_X_F (fun a b q => by unfold mgX at q; omega)
      have o6 : ∀ k0 n0 mn0 ma0, of_f (mm_F B k0 n0 mn0 ma0) S S6 := fun k0 n0 mn0 ma0 => of_trans (o45 k0 n0 mn0 ma0) (of_mono mm_X_F k5)
      rw [k1, wd_c_s, if_pos rfl, h6.2.2.2.2.1, im_s] at ep
      have h7 := mm_69 h6
      have e47 : (wd_i S6 135 69 (Int32.ofNat (s.2.2.2 + 1))).1 135 47 = q.1 := by rw [fr_ne (by omega)]; exact k2
      have o7 : of_f (fun a b => a = 135 ∧ b = 69) S6 (wd_i S6 135 69 (Int32.ofNat (s.2.2.2 + 1))) := of_i ⟨rfl, rfl⟩ of_refl
      rw [e47, mm_gives h7.2.2.2.2.2.2.2.2.2.1 (by omega) (Or.inr rfl), wd_d_s] at ep
      subst em ea el
      exact mm_close_n (s := (s.1, s.2.1, s.2.2.1 + 1, s.2.2.2 + 1)) (mm_h_g h7) mg_167 mg_168 (of_trans (o6 k n mn1 ma1) (of_trans (of_mono (fun a b q => Or.inl ⟨q.1, by omega⟩) o7) (of_mono (fun a b z => mm_w_F a b (by unfold mm_w; omega)) mg_o))) (ep _ rfl) hc
  · rw [if_neg (show ¬Int32.ofNat (mk_ma as) = Int32.ofNat (2 ^ as.length - 1) from fun q => e ((im_eq (by omega) (by omega)).mp q))] at ep
    rw [if_neg e]
    exact mm_174 hX h3 hn ha hr hy hf y3 hl rs3 nn kn3 hmn hma hma0 hml hb hmam (o23 k n mn ma) ep hc
end Mma
