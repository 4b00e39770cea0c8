/-! The class's maker: signs, ifs, lets. -/
section Cm2
variable {b v : Nat} {pg : pg_T} {S0 S S' S1 S2 : wd_S} {N N' : mk_N} {s s' : mk_S} {c c' y z d r g : Nat} {t : tr_T}
theorem cm_nk {lo hi e : Nat} {T : tr_T} (h : nd_t (v + 2) S lo hi e z T) : S.1 (v + 2 + 2) z = tr_k T ∧ S.1 (v + 2 + 4) z = tr_v T ∧ lo ≤ z ∧ z < hi := by
  cases e with
  | zero => exact absurd h id
  | succ e => exact ⟨h.2.2.1, h.2.2.2.1, h.1, h.2.1⟩
/-- two parts -/
theorem cm_join (hX : cm_X b v pg S0) (h : cm_h b v pg S0 N s c S) (hc : c < s.2.1) {k : Int32} (hk : ¬k = 3) {c0 z1 z2 s1 l1 s2 l2 : Nat} {T1 T2 : tr_T} (hc0 : c0 ≤ c) (t1 : nd_t (v + 2) S c0 c r z1 T1) (t2 : nd_t (v + 2) S c0 c r z2 T2) (a1 : S.1 (v + 2 + 10) z1 = Int32.ofNat s1) (a2 : S.1 (v + 2 + 12) z1 = Int32.ofNat l1) (b1 : S.1 (v + 2 + 10) z2 = Int32.ofNat s2) (b2 : S.1 (v + 2 + 12) z2 = Int32.ofNat l2) : ∃ S', fn_Trees_join (v + 2) k (Int32.ofNat z1) (Int32.ofNat z2) S = some (Int32.ofNat c, S') ∧ cm_h b v pg S0 N s (c + 1) S' ∧ nd_g (v + 2) (fun x => x ≠ c) S S' ∧ nd_t (v + 2) S' c0 (c + 1) (r + 1) c (tr_2 k 0 0 T1 T2) ∧ S'.1 (v + 2 + 10) c = Int32.ofNat (1 + s1 + s2) ∧ S'.1 (v + 2 + 12) c = Int32.ofNat (l1 + l2) := by
  obtain ⟨-, -, n1, n2⟩ := cm_nk t1
  obtain ⟨-, -, m1, m2⟩ := cm_nk t2
  obtain ⟨-, h1, g1, o1⟩ := cm_op hX h hc (k := k) (x := 0)
  rw [if_neg hk] at o1
  obtain ⟨e2, h2, g2, o2⟩ := cm_ap hX h1 (z := z1) (s2 := s1) (l2 := l1) (Nat.lt_succ_self c) (by omega) (by omega) (by decide) o1 (by rw [(g1 z1 (by omega)).2.2.2.1]; exact a1) (by rw [(g1 z1 (by omega)).2.2.2.2.1]; exact a2)
  have g12 := nd_trans g1 g2
  obtain ⟨e3, h3, g3, o3⟩ := cm_ap hX h2 (z := z2) (s2 := s2) (l2 := l2) (Nat.lt_succ_self c) (by omega) (by omega) (by show 1 < 10; decide) o2 (by rw [(g12 z2 (by omega)).2.2.2.1]; exact b1) (by rw [(g12 z2 (by omega)).2.2.2.2.1]; exact b2)
  have g13 := nd_trans g12 g3
  refine ⟨_, ?_, h3, g13, ?_, o3.2.2.2.1, ?_⟩
  · rw [fo_join, h.2.2.2.2.1]
  · refine nd_t_mk (f := fun j => if j = 0 then T1 else T2) hc0 (Nat.lt_succ_self c) o3 (fun j hj => ?_)
    have hg : nd_g (v + 2) (fun x => c0 ≤ x ∧ x < c) S (fo_ap (v + 2) (Int32.ofNat c) (Int32.ofNat z2) (fo_ap (v + 2) (Int32.ofNat c) (Int32.ofNat z1) (fo_op (v + 2) k 0 S))) := nd_mono (fun x hx => by omega) g13
    match j, hj with
    | 0, _ => exact nd_t_r (Nat.le_refl _) (Nat.le_succ _) _ _ _ (nd_t_g hg _ _ _ t1)
    | 1, _ => exact nd_t_r (Nat.le_refl _) (Nat.le_succ _) _ _ _ (nd_t_g hg _ _ _ t2)
  · rw [o3.2.2.2.2.1, Nat.zero_add]
theorem cm_96 (hr : r + 1 ≤ 96) : Int32.ofNat (96 - (r + 1)) + 1 = Int32.ofNat (96 - r) := by rw [im_s, show 96 - (r + 1) + 1 = 96 - r by omega]
theorem cm_sign (hX : cm_X b v pg S0) (hS : cm_S b v pg S0 r) (hr : r + 1 ≤ 96) (h : cm_h b v pg S0 N s c S) (hc : c < s.2.1) (ht : nd_t (b + 1) S0 0 1500 d y t) (hk : tr_k t = 6 ∨ tr_k t = 7 ∨ tr_k t = 8 ∨ tr_k t = 9 ∨ tr_k t = 10) (ha : tr_a t = 2) : cm_R b v pg S0 (r + 1) c (s.2.1 - 1) S (mk_sg (mk pg r) N s t) (fn_Maker_becomeSign (rc_Maker_become (2 * r + 8)) (Int32.ofNat y) (Int32.ofNat (96 - (r + 1))) S) := by
  obtain ⟨t9, t0, t8, gL, -⟩ := cm_vv hX
  obtain ⟨u0, u8, -⟩ := cm_bb hX
  obtain ⟨x0, d0, e0, p0⟩ := cm_sub hX h.1 ht (j := 0) (by decide) (by omega)
  unfold fn_Maker_becomeSign mk_sg
  rw [cm_r2 hX h.1, if_pos u8, show fn_Trees_part (b + 1) (Int32.ofNat y) 0 S = some (Int32.ofNat x0, S) from e0, wd_c_s, cm_96 hr]
  refine cm_bind (hS _ _ _ _ _ _ _ h p0) (fun q z1 c1 S1 hq G1 => ?_)
  obtain ⟨h1, i1, n1, w1, a1, a2, a3⟩ := G1
  obtain ⟨x1, d1, e1, p1⟩ := cm_sub hX h1.1 ht (j := 1) (by decide) (by omega)
  rw [cm_r2 hX h1.1, if_pos u8, show fn_Trees_part (b + 1) (Int32.ofNat y) 1 S1 = some (Int32.ofNat x1, S1) from e1, wd_c_s]
  refine cm_bind (hS _ _ _ _ _ _ _ h1 p1) (fun w z2 c2 S2 hw G2 => ?_)
  obtain ⟨h2, i2, n2, w2, b1, b2, b3⟩ := G2
  obtain ⟨k1, k2, k3, k4⟩ := cm_nk w1
  obtain ⟨l1, l2, l3, l4⟩ := cm_nk w2
  have hc2 : c2 < w.2.2.2.1 := by omega
  have h7 := h2.2.2.2.2.2.2.1
  have nz := n2 z1 k4
  have w1' : nd_t (v + 2) S2 c c2 r z1 q.1.1 := nd_t_r (Nat.le_refl _) (by omega) _ _ _ (nd_t_g (nd_mono (fun x hx => hx.2) n2) _ _ _ w1)
  have w2' : nd_t (v + 2) S2 c c2 r z2 w.1.1 := nd_t_r (by omega) (Nat.le_refl _) _ _ _ w2
  have hno : ¬(tr_k q.1.1 = 1 ∧ tr_k w.1.1 = 1) → cm_R b v pg S0 (r + 1) c (s.2.1 - 1) S (if tr_k q.1.1 = 1 ∧ tr_k w.1.1 = 1 then .ok (mk_n (ev_sg (tr_k t) (tr_v q.1.1) (tr_v w.1.1)), w.2) else .ok ((tr_2 (tr_k t) 0 0 q.1.1 w.1.1, 1 + q.1.2.1 + w.1.2.1, q.1.2.2 + w.1.2.2), w.2)) (fn_Maker_becomeSign_93 (rc_Maker_become (2 * r + 8)) (Int32.ofNat z1) (Int32.ofNat z2) (tr_k t) S2) := by
    intro hn
    rw [if_neg hn]
    unfold fn_Maker_becomeSign_93
    obtain ⟨S3, f1, f2, f3, f4, f5, f6⟩ := cm_join hX h2 hc2 (k := tr_k t) (by rcases hk with z | z | z | z | z <;> rw [z] <;> decide) (by omega) w1' w2' (by rw [nz.2.2.2.1]; exact a1) (by rw [nz.2.2.2.2.1]; exact a2) b1 b2
    rw [cm_r4 hX h2.1, if_pos t8, f1, wd_c_s]
    refine ⟨c2, c2 + 1, S3, rfl, f2, ?_, nd_trans n1 (nd_trans (nd_mono (fun x hx => by omega) n2) (nd_mono (fun x hx => by omega) f3)), f4, f5, f6, fun hq => absurd hq ?_⟩
    · show c2 + 1 + (s.2.1 - 1) ≤ w.2.2.2.1 + c
      omega
    · show ¬tr_k t = 1
      rcases hk with z | z | z | z | z <;> rw [z] <;> decide
  rw [cm_r2 hX h2.1, if_pos u8, (cm_node hX h2.1 ht).1, wd_c_s, cm_isn hX h2.1 (show z1 < 1000 by omega), wd_c_s, nz.1, k1]
  by_cases hq1 : tr_k q.1.1 = 1
  · rw [if_pos hq1, if_neg (show ¬(1 : Int32) = 0 by decide), cm_isn hX h2.1 (show z2 < 1000 by omega), wd_c_s, l1]
    by_cases hw1 : tr_k w.1.1 = 1
    · rw [if_pos hw1, if_neg (show ¬(1 : Int32) = 0 by decide), cm_r4 hX h2.1, if_pos t8, if_pos t8, cm_vl hX (show z1 < 1000 by omega), wd_c_s, cm_r4 hX h2.1, if_pos t8, cm_vl hX (show z2 < 1000 by omega), wd_c_s, nz.2.1, k2, l2, sp_sign, wd_c_s, if_pos ⟨hq1, hw1⟩]
      obtain ⟨S3, f1, f2⟩ := cm_leaf (r := r) hX h2 hc2 (g := s.2.1 - 1) (k := 1) (x := ev_sg (tr_k t) (tr_v q.1.1) (tr_v w.1.1)) (by omega) (by decide) (c0 := c) (S9 := S) (nd_trans n1 (nd_mono (fun x hx => by omega) n2)) (by omega) (by omega)
      rw [f1, wd_c_s]
      exact ⟨c2, c2 + 1, S3, rfl, f2⟩
    · rw [if_neg hw1, if_pos rfl]
      exact hno (fun q => hw1 q.2)
  · rw [if_neg hq1, if_pos rfl]
    exact hno (fun q => hq1 q.1)
theorem cm_if (hX : cm_X b v pg S0) (hS : cm_S b v pg S0 r) (hr : r + 1 ≤ 96) (h : cm_h b v pg S0 N s c S) (hc : c < s.2.1) (ht : nd_t (b + 1) S0 0 1500 d y t) (ha : tr_a t = 3) : cm_R b v pg S0 (r + 1) c (s.2.1 - 1) S (mk_if (mk pg r) N s t) (fn_Maker_becomeIf (rc_Maker_become (2 * r + 8)) (Int32.ofNat y) (Int32.ofNat (96 - (r + 1))) S) := by
  obtain ⟨t9, t0, t8, gL, -⟩ := cm_vv hX
  obtain ⟨u0, u8, -⟩ := cm_bb hX
  obtain ⟨x0, d0, e0, p0⟩ := cm_sub hX h.1 ht (j := 0) (by decide) (by omega)
  unfold fn_Maker_becomeIf mk_if
  rw [cm_r2 hX h.1, if_pos u8, show fn_Trees_part (b + 1) (Int32.ofNat y) 0 S = some (Int32.ofNat x0, S) from e0, wd_c_s, cm_96 hr]
  refine cm_bind (hS _ _ _ _ _ _ _ h p0) (fun q z1 c1 S1 hq G1 => ?_)
  obtain ⟨h1, i1, n1, w1, a1, a2, a3⟩ := G1
  obtain ⟨k1, k2, k3, k4⟩ := cm_nk w1
  have h7 := h1.2.2.2.2.2.2.1
  have h5 := h1.2.2.2.2.2.1
  rw [cm_isn hX h1.1 (show z1 < 1000 by omega), wd_c_s, k1]
  by_cases hq1 : tr_k q.1.1 = 1
  · rw [if_pos hq1, if_pos hq1, if_neg (show ¬(1 : Int32) = 0 by decide), cm_r2 hX h1.1, cm_r4 hX h1.1, if_pos u8, if_pos t8, cm_vl hX (show z1 < 1000 by omega), wd_c_s, k2]
    have fin : ∀ j, j < 3 → cm_R b v pg S0 (r + 1) c (s.2.1 - 1) S (mk pg r q.2.1 q.2.2 (tr_sub t j)) (fn_Maker_becomeIf_47 (rc_Maker_become (2 * r + 8)) (Int32.ofNat (96 - (r + 1))) (b + 1) (Int32.ofNat y) (Int32.ofNat j) S1) := fun j hj => by
      obtain ⟨x1, d1, e1, p1⟩ := cm_sub hX h1.1 ht (j := j) (by omega) (by omega)
      unfold fn_Maker_becomeIf_47
      rw [e1, wd_c_s, cm_96 hr]
      exact cm_K (cm_mono (hS _ _ _ _ _ _ _ h1 p1) n1 (by omega) (Nat.le_succ r) (by omega))
    by_cases hz : tr_v q.1.1 = 0
    · rw [if_pos hz, if_pos hz]
      exact fin 2 (by decide)
    · rw [if_neg hz, if_neg hz]
      exact fin 1 (by decide)
  · rw [if_neg hq1, if_neg hq1, if_pos rfl, cm_r4 hX h1.1, if_pos t8]
    obtain ⟨e2, h2, g2, o2⟩ := cm_op hX h1 (show c1 < q.2.2.2.1 by omega) (k := 4) (x := 0)
    rw [e2, wd_c_s]
    generalize fo_op (v + 2) 4 0 S1 = S2 at *
    obtain ⟨e3, h3, g3, o3⟩ := cm_ap hX h2 (z := z1) (Nat.lt_succ_self c1) (by omega) (by omega) (by decide) o2 (by rw [(g2 z1 (by omega)).2.2.2.1]; exact a1) (by rw [(g2 z1 (by omega)).2.2.2.2.1]; exact a2)
    rw [cm_r4 hX h2.1, if_pos t8, e3, wd_d_s]
    generalize fo_ap (v + 2) (Int32.ofNat c1) (Int32.ofNat z1) S2 = S3 at *
    obtain ⟨x1, d1, f1, p1⟩ := cm_sub hX h3.1 ht (j := 1) (by decide) (by omega)
    rw [cm_r4 hX h3.1, cm_r2 hX h3.1, if_pos t8, if_pos u8, show fn_Trees_part (b + 1) (Int32.ofNat y) 1 S3 = some (Int32.ofNat x1, S3) from f1, wd_c_s]
    refine cm_bind (hS _ _ _ _ _ _ _ h3 p1) (fun w z2 c2 S4 hw G2 => ?_)
    obtain ⟨h4, i2, n2, w2, b1, b2, b3⟩ := G2
    obtain ⟨-, -, l3, l4⟩ := cm_nk w2
    have o4 := nd_o_g (p := fun x => x < c1 + 1) (Nat.lt_succ_self c1) n2 o3
    obtain ⟨e5, h5', g5, o5⟩ := cm_ap hX h4 (z := z2) (show c1 < c2 by omega) (by omega) (by omega) (by show 1 < 10; decide) o4 b1 b2
    rw [e5, wd_d_s]
    generalize fo_ap (v + 2) (Int32.ofNat c1) (Int32.ofNat z2) S4 = S5 at *
    obtain ⟨x2, d2, f2, p2⟩ := cm_sub hX h5'.1 ht (j := 2) (by decide) (by omega)
    rw [cm_r4 hX h5'.1, cm_r2 hX h5'.1, if_pos t8, if_pos u8, show fn_Trees_part (b + 1) (Int32.ofNat y) 2 S5 = some (Int32.ofNat x2, S5) from f2, wd_c_s]
    refine cm_bind (hS _ _ _ _ _ _ _ h5' p2) (fun u z3 c3 S6 hu G3 => ?_)
    obtain ⟨h6, i3, n3, w3, d1, d2, d3⟩ := G3
    obtain ⟨-, -, m3, m4⟩ := cm_nk w3
    have o6 := nd_o_g (p := fun x => x < c2) (show c1 < c2 by omega) n3 o5
    obtain ⟨e7, h7', g7, o7⟩ := cm_ap hX h6 (z := z3) (show c1 < c3 by omega) (by omega) (by omega) (by show 2 < 10; decide) o6 d1 d2
    rw [e7, wd_d_s]
    generalize fo_ap (v + 2) (Int32.ofNat c1) (Int32.ofNat z3) S6 = S7 at *
    have gA : nd_g (v + 2) (fun x => x < c1) S1 S7 := nd_trans (nd_mono (fun x hx => by omega) g2) (nd_trans (nd_mono (fun x hx => by omega) g3) (nd_trans (nd_mono (fun x hx => by omega) n2) (nd_trans (nd_mono (fun x hx => by omega) g5) (nd_trans (nd_mono (fun x hx => by omega) n3) (nd_mono (fun x hx => by omega) g7)))))
    have gB : nd_g (v + 2) (fun x => c1 + 1 ≤ x ∧ x < c2) S4 S7 := nd_trans (nd_mono (fun x hx => by omega) g5) (nd_trans (nd_mono (fun x hx => by omega) n3) (nd_mono (fun x hx => by omega) g7))
    have gC : nd_g (v + 2) (fun x => c2 ≤ x ∧ x < c3) S6 S7 := nd_mono (fun x hx => by omega) g7
    refine ⟨c1, c3, S7, rfl, h7', ?_, nd_trans n1 (nd_mono (fun x hx => by omega) gA), ?_, ?_, ?_, fun hq => absurd hq (show ¬(4 : Int32) = 1 by decide)⟩
    · show c3 + (s.2.1 - 1) ≤ u.2.2.2.1 + c
      omega
    · refine nd_t_mk (f := fun j => if j = 0 then q.1.1 else if j = 1 then w.1.1 else u.1.1) (by omega) (by omega) o7 (fun j hj => ?_)
      match j, hj with
      | 0, _ => exact nd_t_r (Nat.le_refl _) (by omega) _ _ _ (nd_t_g (nd_mono (fun x hx => hx.2) gA) _ _ _ w1)
      | 1, _ => exact nd_t_r (by omega) (by omega) _ _ _ (nd_t_g gB _ _ _ w2)
      | 2, _ => exact nd_t_r (by omega) (by omega) _ _ _ (nd_t_g gC _ _ _ w3)
    · rw [o7.2.2.2.1]
    · rw [o7.2.2.2.2.1, if_neg (by decide), Nat.zero_add]
/-- a NAME gets its meaning -/
theorem cm_bd (hX : cm_X b v pg S0) (h : cm_h b v pg S0 N s c S) {n : Nat} (hn : n < 16) {e : Bool} {x : Int32} : ∃ S', fn_Maker_bind (Int32.ofNat n) (if e = true then 1 else 0) x S = some S' ∧ cm_h b v pg S0 (mk_u N n (e, x)) s c S' ∧ ∀ p, nd_g (v + 2) p S S' := by
  have hv := hX.2.1
  obtain ⟨a1, a2, a3, a4, a5, a6, a7, a8, a9⟩ := h
  have o : of_r (fun a k => a = 117 ∨ a = 119) cx_R S (wd_i (wd_i S 117 n (if e = true then 1 else 0)) 119 n x) := ofr_i (by omega) (ofr_i (by omega) ofr_refl)
  refine ⟨wd_i (wd_i S 117 n (if e = true then 1 else 0)) 119 n x, ?_, ⟨ofr_trans a1 (ofr_i (by unfold cm_W; omega) (ofr_i (by unfold cm_W; omega) ofr_refl)), ?_, ?_, ?_, ?_, a6, a7, fun i q hi => ?_, cm_ov hv o (fun a k q => by omega) a9⟩, fun p => nd_rows (fun a g1 g2 => ?_)⟩
  · unfold fn_Maker_bind
    rw [ro_put_ok, wd_d_s, ro_put_ok, wd_d_s, ro_pn cm_117 hn, ro_pn cm_119 hn]
  · rw [o.1 115 8 (by omega)]; exact a2
  · rw [o.1 115 9 (by omega)]; exact a3
  · rw [o.1 115 10 (by omega)]; exact a4
  · rw [o.1 (v + 2) 6 (by omega)]; exact a5
  · unfold mk_u at hi
    split at hi
    · next ei =>
      cases hi
      rw [ei]
      exact ⟨hn, by rw [fr_ne (by omega), fr_eq], by rw [fr_eq]⟩
    · next ei =>
      obtain ⟨k1, k2, k3⟩ := a8 i q hi
      exact ⟨k1, by rw [fr_ne (by omega), fr_ne (by omega)]; exact k2, by rw [fr_ne (by omega), fr_ne (by omega)]; exact k3⟩
  · funext k
    exact o.1 a k (by omega)
theorem cm_let (hX : cm_X b v pg S0) (hS : cm_S b v pg S0 r) (hr : r + 1 ≤ 96) (h : cm_h b v pg S0 N s c S) (hc : c < s.2.1) (ht : nd_t (b + 1) S0 0 1500 d y t) (ha : tr_a t = 2) (hn : tr_v t = Int32.ofNat (tr_n t)) (hn2 : tr_n t < 16) : cm_R b v pg S0 (r + 1) c (s.2.1 - 1) S (mk_let (mk pg r) N s t) (fn_Maker_becomeLet (rc_Maker_become (2 * r + 8)) (Int32.ofNat y) (Int32.ofNat (96 - (r + 1))) S) := by
  obtain ⟨t9, t0, t8, gL, -⟩ := cm_vv hX
  obtain ⟨u0, u8, -⟩ := cm_bb hX
  obtain ⟨x0, d0, e0, p0⟩ := cm_sub hX h.1 ht (j := 0) (by decide) (by omega)
  unfold fn_Maker_becomeLet mk_let
  rw [cm_r2 hX h.1, if_pos u8, (cm_node hX h.1 ht).2.1, wd_c_s, cm_r2 hX h.1, if_pos u8, show fn_Trees_part (b + 1) (Int32.ofNat y) 0 S = some (Int32.ofNat x0, S) from e0, wd_c_s, cm_96 hr]
  refine cm_bind (hS _ _ _ _ _ _ _ h p0) (fun q z1 c1 S1 hq G1 => ?_)
  obtain ⟨h1, i1, n1, w1, a1, a2, a3⟩ := G1
  obtain ⟨k1, k2, k3, k4⟩ := cm_nk w1
  have h7 := h1.2.2.2.2.2.2.1
  have h5 := h1.2.2.2.2.2.1
  rw [cm_isn hX h1.1 (show z1 < 1000 by omega), wd_c_s, k1]
  by_cases hq1 : tr_k q.1.1 = 1
  · obtain ⟨S2, e2, h2, g2⟩ := cm_bd hX h1 hn2 (e := true) (x := tr_v q.1.1)
    rw [if_pos rfl] at e2
    rw [if_pos hq1, if_pos hq1, if_neg (show ¬(1 : Int32) = 0 by decide), cm_r4 hX h1.1, if_pos t8, cm_vl hX (show z1 < 1000 by omega), wd_c_s, k2, hn, e2, wd_d_s, cm_r2 hX h2.1, if_pos u8]
    obtain ⟨x1, d1, f1, p1⟩ := cm_sub hX h2.1 ht (j := 1) (by decide) (by omega)
    rw [show fn_Trees_part (b + 1) (Int32.ofNat y) 1 S2 = some (Int32.ofNat x1, S2) from f1, wd_c_s]
    exact cm_K (cm_mono (hS _ _ _ _ _ _ _ h2 p1) (nd_trans n1 (g2 _)) (by omega) (Nat.le_succ r) (by omega))
  · obtain ⟨S2, e2, h2, g2⟩ := cm_bd hX h1 hn2 (e := false) (x := tr_v t)
    rw [if_neg (show ¬false = true by decide), ← hn] at e2
    rw [if_neg hq1, if_neg hq1, if_pos rfl, e2, wd_d_s, cm_r4 hX h2.1, if_pos t8]
    obtain ⟨e3, h3, g3, o3⟩ := cm_op hX h2 (show c1 < q.2.2.2.1 by omega) (k := 3) (x := tr_v t)
    rw [e3, wd_c_s]
    generalize fo_op (v + 2) 3 (tr_v t) S2 = S3 at *
    have q10 : S3.1 (v + 2 + 10) z1 = Int32.ofNat q.1.2.1 := by rw [(g3 z1 (by omega)).2.2.2.1, (g2 (fun _ => True) z1 trivial).2.2.2.1]; exact a1
    have q12 : S3.1 (v + 2 + 12) z1 = Int32.ofNat q.1.2.2 := by rw [(g3 z1 (by omega)).2.2.2.2.1, (g2 (fun _ => True) z1 trivial).2.2.2.2.1]; exact a2
    obtain ⟨e4, h4, g4, o4⟩ := cm_ap hX h3 (z := z1) (Nat.lt_succ_self c1) (by omega) (by omega) (by decide) o3 q10 q12
    rw [cm_r4 hX h3.1, if_pos t8, e4, wd_d_s]
    generalize fo_ap (v + 2) (Int32.ofNat c1) (Int32.ofNat z1) S3 = S4 at *
    obtain ⟨x1, d1, f1, p1⟩ := cm_sub hX h4.1 ht (j := 1) (by decide) (by omega)
    rw [cm_r4 hX h4.1, cm_r2 hX h4.1, if_pos t8, if_pos u8, show fn_Trees_part (b + 1) (Int32.ofNat y) 1 S4 = some (Int32.ofNat x1, S4) from f1, wd_c_s]
    refine cm_bind (hS _ _ _ _ _ _ _ h4 p1) (fun w z2 c2 S5 hw G2 => ?_)
    obtain ⟨h5', i2, n2, w2, b1, b2, b3⟩ := G2
    obtain ⟨-, -, l3, l4⟩ := cm_nk w2
    have o5 := nd_o_g (p := fun x => x < c1 + 1) (Nat.lt_succ_self c1) n2 o4
    obtain ⟨e6, h6, g6, o6⟩ := cm_ap hX h5' (z := z2) (show c1 < c2 by omega) (by omega) (by omega) (by show 1 < 10; decide) o5 b1 b2
    rw [e6, wd_d_s]
    generalize fo_ap (v + 2) (Int32.ofNat c1) (Int32.ofNat z2) S5 = S6 at *
    have gA : nd_g (v + 2) (fun x => x < c1) S1 S6 := nd_trans (g2 _) (nd_trans (nd_mono (fun x hx => by omega) g3) (nd_trans (nd_mono (fun x hx => by omega) g4) (nd_trans (nd_mono (fun x hx => by omega) n2) (nd_mono (fun x hx => by omega) g6))))
    refine ⟨c1, c2, S6, rfl, h6, ?_, nd_trans n1 (nd_mono (fun x hx => by omega) gA), ?_, ?_, ?_, fun hq => absurd hq (show ¬(3 : Int32) = 1 by decide)⟩
    · show c2 + (s.2.1 - 1) ≤ w.2.2.2.1 + c
      omega
    · refine nd_t_mk (f := fun j => if j = 0 then q.1.1 else w.1.1) (by omega) (by omega) o6 (fun j hj => ?_)
      match j, hj with
      | 0, _ => exact nd_t_r (Nat.le_refl _) (by omega) _ _ _ (nd_t_g (nd_mono (fun x hx => hx.2) gA) _ _ _ w1)
      | 1, _ => exact nd_t_r (by omega) (by omega) _ _ _ (nd_t_g (nd_mono (fun x hx => by omega) g6) _ _ _ w2)
    · rw [o6.2.2.2.1]
    · rw [o6.2.2.2.2.1, if_pos rfl]
end Cm2
