/-! The class's maker: calls, whole. -/
section Cm6
variable {b v : Nat} {pg : pg_T} {S0 S S' S1 S2 S9 : wd_S} {N N' : mk_N} {s s' : mk_S} {c c1 c' y z d r g n f k : Nat} {t : tr_T} {ps qs : ca_T}
theorem cm_cx (hv : v = 54 ∨ v = 79) : ∀ a k, cx_W a k → cm_W v a k ∧ a ≠ 115 ∧ a ≠ 117 ∧ a ≠ 119 ∧ (a ≤ v ∨ v + 24 < a) := fun a k q => ⟨Or.inl q, by unfold cx_W at q; omega, by unfold cx_W at q; omega, by unfold cx_W at q; omega, by unfold cx_W at q; omega⟩
theorem cm_cy (hv : v = 54 ∨ v = 79) : ∀ a k, cx_W a k → a ≤ v + 1 ∨ v + 14 < a := fun a k q => by unfold cx_W at q; omega
theorem cm_c1 (hv : v = 54 ∨ v = 79) : ∀ a k : Nat, a = 121 → cm_W v a k ∧ a ≠ 115 ∧ a ≠ 117 ∧ a ≠ 119 ∧ (a ≤ v ∨ v + 24 < a) := fun a k q => ⟨Or.inr (Or.inr (Or.inr (Or.inr (Or.inl q)))), by omega, by omega, by omega, by omega⟩
theorem cm_turn (hX : cm_X b v pg S0) (h : cm_h b v pg S0 N s c1 S) (hcc : c < c1) (hn : nd_g (v + 2) (fun x => x < c) S9 S) (hg : c1 + g ≤ s.2.1 + c) {x : Int32} : ∃ S', fn_Trees_turnIntoNumber (v + 2) (Int32.ofNat c) x S = some S' ∧ cm_G b v pg S0 (r + 1) c g S9 (mk_n x, N, s) c c1 S' := by
  obtain ⟨t9, t0, t8, ⟨g2, g4, g6, g8, g10, g12⟩, -⟩ := cm_vv hX
  have h5 := h.2.2.2.2.2.1
  have h7 := h.2.2.2.2.2.2.1
  have hc : c < 1000 := by omega
  unfold fn_Trees_turnIntoNumber
  rw [ro_put_ok, wd_d_s, ro_put_ok, wd_d_s, ro_put_ok, wd_d_s, ro_put_ok, wd_d_s, ro_put_ok, wd_d_s, ro_pn (r := v + 2 + 1) g2 hc, ro_pn (r := v + 2 + 3) g4 hc, ro_pn (r := v + 2 + 5) g6 hc, ro_pn (r := v + 2 + 9) g10 hc, ro_pn (r := v + 2 + 11) g12 hc]
  generalize hS1 : wd_i (wd_i (wd_i (wd_i (wd_i S (v + 2 + 1 + 1) c 1) (v + 2 + 3 + 1) c x) (v + 2 + 5 + 1) c 0) (v + 2 + 9 + 1) c 1) (v + 2 + 11 + 1) c 0 = S1
  have o : of_f (fun a k => (a = v + 4 ∨ a = v + 6 ∨ a = v + 8 ∨ a = v + 12 ∨ a = v + 14) ∧ k = c) S S1 := by
    rw [← hS1]
    exact of_i (by omega) (of_i (by omega) (of_i (by omega) (of_i (by omega) (of_i (by omega) of_refl))))
  have k2 : S1.1 (v + 2 + 2) c = 1 := by rw [← hS1, fr_ne (by omega), fr_ne (by omega), fr_ne (by omega), fr_ne (by omega), fr_e (by omega)]
  have k4 : S1.1 (v + 2 + 4) c = x := by rw [← hS1, fr_ne (by omega), fr_ne (by omega), fr_ne (by omega), fr_e (by omega)]
  have k6 : S1.1 (v + 2 + 6) c = 0 := by rw [← hS1, fr_ne (by omega), fr_ne (by omega), fr_e (by omega)]
  have k10 : S1.1 (v + 2 + 10) c = 1 := by rw [← hS1, fr_ne (by omega), fr_e (by omega)]
  have k12 : S1.1 (v + 2 + 12) c = 0 := by rw [← hS1, fr_e (by omega)]
  have gn : nd_g (v + 2) (fun x => x ≠ c) S S1 := fun x hx => ⟨o.1 _ _ (by omega), o.1 _ _ (by omega), o.1 _ _ (by omega), o.1 _ _ (by omega), o.1 _ _ (by omega), fun j _ => o.1 _ _ (by omega)⟩
  exact ⟨S1, rfl, cm_tw hX (ofr_of (fun a k q => by omega) o) (by rw [o.1 _ _ (by omega)]; exact h.2.2.2.2.1) h5 h, hg, nd_trans hn (nd_mono (fun x hx => by omega) gn), ⟨Nat.le_refl _, hcc, k2, k4, k6, fun j _ hj => absurd hj (Nat.not_lt_zero _)⟩, k10, k12, fun _ => rfl⟩
theorem cm_63 (hX : cm_X b v pg S0) (h : cm_h b v pg S0 N s c1 S) (hcc : c < c1) (ha : ca_h v r c c1 S 0 ps) (hn : nd_g (v + 2) (fun x => x < c) S9 S) (hg : c1 + g ≤ s.2.1 + c) (ht : nd_t (b + 1) S0 0 1500 d y t) (hf : tr_n t < pg.length) (hfv : tr_v t = Int32.ofNat (tr_n t)) (hl : ps.length = pg_n pg (tr_n t)) {slf : Nat → Int32 → Int32 → wd_S → Option ((Int32 ⊕ String) × wd_S)} : cm_R b v pg S0 (r + 1) c g S9 (mk_b (mk_call (pg_P pg) (tr_n t) (ca_a ps) s) fun w => .ok (w.1, N, w.2)) (fn_Maker_becomeCall_63 slf (Int32.ofNat y) (Int32.ofNat c) S) := by
  obtain ⟨t9, t0, t8, gL, z16, z18, z20, z22, z24⟩ := cm_vv hX
  obtain ⟨u0, u8, uL, u15, u17⟩ := cm_bb hX
  have hv := hX.2.1
  have hb := hX.1
  have hpl := hX.2.2.2.2.2.2.2.1
  have hpn := hX.2.2.2.2.2.2.2.2 (tr_n t)
  have h5 := h.2.2.2.2.2.1
  have h7 := h.2.2.2.2.2.2.1
  have hla : (ca_a ps).length = ps.length := List.length_map _
  have hlz : (ca_z ps).length = ps.length := List.length_map _
  obtain ⟨⟨o2, o4, o6, o10, o12, o8⟩, hl4, hps⟩ := id ha
  obtain ⟨S1, f1, o1, w1⟩ := cm_gw4 (ps := ps) hX h.1 (show c < 1000 by omega) hl4 (by rw [o6, hlz]) (fun j hj => by
    obtain ⟨k1, k2, k3, k4⟩ := cm_nk (hps ps[j] (List.getElem_mem hj)).1
    exact ⟨(o8 j (by omega) (by rw [hlz]; exact hj)).trans (congrArg Int32.ofNat (List.getElem_map _)), by omega, k1, k2⟩) ps.length 0 (999999 - ps.length) S (Nat.zero_add _) of_refl (fun j hj => absurd hj (Nat.not_lt_zero _))
  rw [show 999999 - ps.length + 1 + ps.length = wd_F by rw [show wd_F = 1000000 from rfl]; omega] at f1
  have f1 : fn_Maker_gatherWanted_4 wd_F (Int32.ofNat c) 0 0 S = some (Int32.ofNat (mk_mk (mk_nb (ca_a ps)) ps.length), S1) := f1
  have em : mk_mk (mk_nb (ca_a ps)) ps.length = mk_ma (ca_a ps) := by unfold mk_ma; rw [hla]
  rw [em] at f1
  have o1r : of_r (fun a k => a = 121) cx_R S S1 := ofr_of (fun _ _ q => q) o1
  have h1 := cm_ho hX o1r (cm_c1 hv) h
  have n1 : ∀ p, nd_g (v + 2) p S S1 := cm_hn hX o1r (fun a k q => by omega)
  have ha1 := ca_g hcc (n1 _) ha
  unfold fn_Maker_becomeCall_63 fn_Maker_gatherWanted
  rw [cm_r2 hX h.1, if_pos u8, (cm_node hX h.1 ht).2.1, wd_c_s, hfv, f1, wd_c_s, cm_r1 hX h1.1, if_pos u0]
  unfold fn_Bodies_paramMask
  rw [fo_params, wd_c_s, ro_an (r := b + 16) u17 (show tr_n t < 48 by omega), show S1.1 (b + 16 + 1) (tr_n t) = Int32.ofNat (pg_n pg (tr_n t)) from cm_pn hX h1.1 hf, wd_c_s, mk_i_pm _ (by omega)]
  have hm2 : mk_ma (ca_a ps) < 2 ^ pg_n pg (tr_n t) := by rw [← em, ← hl]; exact mk_mk_lt _ _
  have hp16 : 2 ^ pg_n pg (tr_n t) ≤ 2 ^ 4 := Nat.pow_le_pow_right (by decide) hpn
  unfold mk_call
  rw [hla, hl]
  by_cases e : mk_ma (ca_a ps) = 2 ^ pg_n pg (tr_n t) - 1
  · have hall : ∀ i, i < ps.length → mk_nb (ca_a ps) i = true := (mk_mk_all _ _).mp (by rw [em, e, hl])
    rw [if_pos e, if_pos (show Int32.ofNat (mk_ma (ca_a ps)) = Int32.ofNat (2 ^ pg_n pg (tr_n t) - 1) by rw [e])]
    simp only [wd_b]
    rw [h1.2.2.1, im_s]
    generalize hS2 : wd_i S1 115 9 (Int32.ofNat (s.2.2.1 + 1)) = S2
    have o2' : of_r (fun a k => a = 115 ∧ k = 9) cx_R S1 S2 := by rw [← hS2]; exact ofr_i ⟨rfl, rfl⟩ ofr_refl
    have n2 : ∀ p, nd_g (v + 2) p S1 S2 := cm_hn hX o2' (fun a k q => by omega)
    have h2 : cm_h b v pg S0 N (s.1, s.2.1, s.2.2.1 + 1, s.2.2.2) c1 S2 := by
      obtain ⟨a1, a2, a3, a4, a5, a6, a7, a8, a9⟩ := h1
      exact ⟨ofr_trans a1 ⟨fun a k q => o2'.1 a k (fun z => q (by unfold cm_W; omega)), fun a k q => o2'.2.1 a k (fun z => q (by unfold cm_W; omega)), o2'.2.2.1, o2'.2.2.2⟩, by rw [o2'.1 115 8 (by omega)]; exact a2, by rw [← hS2, fr_eq], by rw [o2'.1 115 10 (by omega)]; exact a4, by rw [o2'.1 (v + 2) 6 (by omega)]; exact a5, a6, a7, cm_oe o2' (fun k => by omega) a8, cm_ov (s := s) hv o2' (fun a k q => by omega) a9⟩
    have ha2 := ca_g hcc (n2 _) ha1
    have hPl : tr_n t < (pg_P pg).length := by unfold pg_P; rw [List.length_map]; exact hf
    have hw := sp_work (k := tr_n t) (p := 120) (lim := 500) (l := (ca_a ps).map (fun a => tr_v a.1)) (cm_cb hX) (by unfold pg_P; rw [List.length_map]; omega) hPl (cm_cg hX h2.1) (by decide) rfl (by omega) (by rw [List.length_map, hla]; exact hl4) (fun i hi => by
      have hi2 : i < ps.length := by rw [List.length_map, hla] at hi; exact hi
      rw [← hS2, fr_ne (by omega), w1 i hi2 (hall i hi2), List.getElem_map]
      unfold mk_kn
      rw [ca_at hi2]
      exact congrArg (fun q : mk_R => tr_v q.1) (List.getElem_map _).symm)
    rw [cm_r1 hX h2.1, if_pos u0]
    rw [show (pg_P pg).getD (tr_n t) tr_z = (pg_P pg)[tr_n t] by rw [List.getD_eq_getElem?_getD, List.getElem?_eq_getElem hPl]; rfl]
    cases hq : ev (pg_P pg) 500 160 (ev_l ((ca_a ps).map (fun a => tr_v a.1))) 0 0 (pg_P pg)[tr_n t] with
    | error er =>
      cases er with
      | none => trivial
      | some er =>
        rw [hq] at hw
        obtain ⟨S3, k1, -, -, -, k5⟩ := hw
        have k1 : fn_Runner_work b (Int32.ofNat (tr_n t)) 120 500 S2 = some (er.1, S3) := k1
        have hne : ¬er.1 = 1 := by rcases ev_er _ _ _ _ _ _ hq with z | z <;> rw [z] <;> decide
        rw [k1, wd_c_s, if_neg hne]
        have h3 := cm_ho hX k5 (cm_cx hv) h2
        have n3 : ∀ p, nd_g (v + 2) p S2 S3 := cm_hn hX k5 (cm_cy hv)
        obtain ⟨S4, f4, G4⟩ := cm_lead (f := tr_n t) (s := (s.1, s.2.1, s.2.2.1 + 1, s.2.2.2)) hX h3 hcc (ca_g hcc (n3 _) ha2) (nd_trans hn (nd_trans (n1 _) (nd_trans (n2 _) (n3 _)))) hg hf hl (fun j q1 q2 => by rw [k5.1 121 j (by unfold cx_W; omega), o2'.1 121 j (by omega)]; exact w1 j q1 q2)
        unfold fn_Maker_becomeCall_155
        rw [f4, wd_d_s]
        exact ⟨c, c1, S4, rfl, G4⟩
    | ok q =>
      rw [hq] at hw
      obtain ⟨S3, k1, k2, -, -, k5⟩ := hw
      have k1 : fn_Runner_work b (Int32.ofNat (tr_n t)) 120 500 S2 = some (1, S3) := k1
      have h3 := cm_ho hX k5 (cm_cx hv) h2
      have n3 : ∀ p, nd_g (v + 2) p S2 S3 := cm_hn hX k5 (cm_cy hv)
      rw [k1, wd_c_s, if_pos rfl, h3.2.2.2.1, im_s]
      generalize hS4 : wd_i S3 115 10 (Int32.ofNat (s.2.2.2 + 1)) = S4
      have o4' : of_r (fun a k => a = 115 ∧ k = 10) cx_R S3 S4 := by rw [← hS4]; exact ofr_i ⟨rfl, rfl⟩ ofr_refl
      have n4 : ∀ p, nd_g (v + 2) p S3 S4 := cm_hn hX o4' (fun a k q => by omega)
      have h4 : cm_h b v pg S0 N (s.1, s.2.1, s.2.2.1 + 1, s.2.2.2 + 1) c1 S4 := by
        obtain ⟨a1, a2, a3, a4, a5, a6, a7, a8, a9⟩ := h3
        exact ⟨ofr_trans a1 ⟨fun a k q => o4'.1 a k (fun z => q (by unfold cm_W; omega)), fun a k q => o4'.2.1 a k (fun z => q (by unfold cm_W; omega)), o4'.2.2.1, o4'.2.2.2⟩, by rw [o4'.1 115 8 (by omega)]; exact a2, by rw [o4'.1 115 9 (by omega)]; exact a3, by rw [← hS4, fr_eq], by rw [o4'.1 (v + 2) 6 (by omega)]; exact a5, a6, a7, cm_oe o4' (fun k => by omega) a8, cm_ov (s := s) hv o4' (fun a k q => by omega) a9⟩
      rw [cm_r4 hX h4.1, if_pos t8]
      unfold fn_Runner_result
      rw [wd_c_s, o4'.1 104 11 (by omega), k2]
      obtain ⟨S5, f5, G5⟩ := cm_turn (r := r) (x := q.1) hX h4 hcc (nd_trans hn (nd_trans (n1 _) (nd_trans (n2 _) (nd_trans (n3 _) (n4 _))))) hg
      rw [f5, wd_d_s]
      exact ⟨c, c1, S5, rfl, G5⟩
  · rw [if_neg e, if_neg (show ¬Int32.ofNat (mk_ma (ca_a ps)) = Int32.ofNat (2 ^ pg_n pg (tr_n t) - 1) from fun z => e ((im_eq (by omega) (by omega)).mp z))]
    obtain ⟨S4, f4, G4⟩ := cm_lead (f := tr_n t) hX h1 hcc ha1 (nd_trans hn (n1 _)) hg hf hl w1
    unfold fn_Maker_becomeCall_155
    rw [f4, wd_d_s]
    exact ⟨c, c1, S4, rfl, G4⟩
theorem mk_b_b {α β γ : Type} (x : Except mk_E α) (f : α → Except mk_E β) (h : β → Except mk_E γ) : mk_b (mk_b x f) h = mk_b x (fun a => mk_b (f a) h) := by cases x <;> rfl
/-- the arguments, one by one -/
theorem cm_args (hX : cm_X b v pg S0) (hS : cm_S b v pg S0 r) (hr : r + 1 ≤ 96) (ht : nd_t (b + 1) S0 0 1500 d y t) (hf : tr_n t < pg.length) (hfv : tr_v t = Int32.ofNat (tr_n t)) (hl : tr_a t = pg_n pg (tr_n t)) : ∀ (r' j F : Nat) (ps : ca_T) (N : mk_N) (s : mk_S) (c1 : Nat) (S : wd_S), r' + j = tr_a t → ps.length = j → cm_h b v pg S0 N s c1 S → c < c1 → ca_h v r c c1 S 0 ps → nd_g (v + 2) (fun x => x < c) S9 S → c1 + g ≤ s.2.1 + c → cm_R b v pg S0 (r + 1) c g S9 (mk_b (mk_args (mk pg r) t r' j N s) fun q => mk_b (mk_call (pg_P pg) (tr_n t) (ca_a ps ++ q.1) q.2.2) fun w => .ok (w.1, q.2.1, w.2)) (fn_Maker_becomeCall_13 (rc_Maker_become (2 * r + 8)) (F + 1 + r') (Int32.ofNat y) (Int32.ofNat (96 - (r + 1))) (Int32.ofNat c) (Int32.ofNat j) S) := by
  obtain ⟨t9, t0, t8, gL, -⟩ := cm_vv hX
  obtain ⟨u0, u8, -⟩ := cm_bb hX
  have ha4 := hX.2.2.2.2.2.2.2.2 (tr_n t)
  intro r'
  induction r' with
  | zero =>
    intro j F ps N s c1 S hj hpl h hcc ha hn hg
    have hj : j = tr_a t := by omega
    show cm_R b v pg S0 (r + 1) c g S9 (mk_b (mk_call (pg_P pg) (tr_n t) (ca_a ps ++ []) s) fun w => .ok (w.1, N, w.2)) _
    rw [List.append_nil, Nat.add_zero, fn_Maker_becomeCall_13]
    have h63 := cm_63 (slf := rc_Maker_become (2 * r + 8)) hX h hcc ha hn hg ht hf hfv (by omega)
    split
    · rw [cm_r2 hX h.1, if_pos u8, (cm_node hX h.1 ht).2.2, wd_c_s, hj, if_neg Int32.lt_irrefl]
      exact h63
    · exact h63
  | succ r' ih =>
    intro j F ps N s c1 S hj hpl h hcc ha hn hg
    show cm_R b v pg S0 (r + 1) c g S9 (mk_b (mk_b (mk pg r N s (tr_sub t j)) fun q => mk_b (mk_args (mk pg r) t r' (j + 1) q.2.1 q.2.2) fun w => .ok (q.1 :: w.1, w.2)) _) (fn_Maker_becomeCall_13 (rc_Maker_become (2 * r + 8)) (F + 1 + r' + 1) (Int32.ofNat y) (Int32.ofNat (96 - (r + 1))) (Int32.ofNat c) (Int32.ofNat j) S)
    obtain ⟨x1, d1, f1, p1⟩ := cm_sub hX h.1 ht (j := j) (by omega) (by omega)
    rw [mk_b_b, fn_Maker_becomeCall_13, if_pos (show Int32.ofNat j < 4 from (im_lt (m := j) (n := 4) (by omega) (by omega)).mpr (by omega)), cm_r2 hX h.1, if_pos u8, (cm_node hX h.1 ht).2.2, wd_c_s, if_pos ((im_lt (by omega) (by omega)).mpr (by omega)), cm_r4 hX h.1, if_pos t8, cm_r2 hX h.1, if_pos u8, f1, wd_c_s, cm_96 hr]
    refine cm_bind (hS _ _ _ _ _ _ _ h p1) (fun q z1 c2 S1 hq G1 => ?_)
    obtain ⟨h1, i1, n1, w1, a1, a2, a3⟩ := G1
    obtain ⟨k1, k2, k3, k4⟩ := cm_nk w1
    have ha1 := ca_g hcc n1 ha
    obtain ⟨hl4, hps⟩ := ha1.2
    have hlz : (ca_z ps).length = ps.length := List.length_map _
    obtain ⟨e2, h2, g2, o2⟩ := cm_ap hX h1 (y := c) (z := z1) (show c < c2 by omega) (by omega) (by omega) (by rw [hlz]; omega) ha1.1 a1 a2
    rw [e2, wd_d_s, im_s, mk_b_b]
    have ez : ca_z ps ++ [z1] = ca_z (ps ++ [(z1, q.1)]) := by unfold ca_z; rw [List.map_append]; rfl
    have ea : ca_a (ps ++ [(z1, q.1)]) = ca_a ps ++ [q.1] := by unfold ca_a; rw [List.map_append]; rfl
    have ha2 : ca_h v r c c2 (fo_ap (v + 2) (Int32.ofNat c) (Int32.ofNat z1) S1) 0 (ps ++ [(z1, q.1)]) := by
      refine ⟨?_, by rw [List.length_append]; show ps.length + 1 ≤ 4; omega, fun p hp => ?_⟩
      · rw [← ez, ea, mk_sz_a, mk_lt_a, ← Nat.add_assoc]
        exact o2
      · rcases List.mem_append.mp hp with e | e
        · exact ⟨nd_t_r (Nat.le_refl _) (by omega) _ _ _ (nd_t_g (nd_mono (fun x hx => by omega) g2) _ _ _ (hps p e).1), (hps p e).2⟩
        · rw [List.mem_singleton.mp e]
          exact ⟨nd_t_r (by omega) (Nat.le_refl _) _ _ _ (nd_t_g (nd_mono (fun x hx => by omega) g2) _ _ _ w1), a3⟩
    have := ih (j + 1) F (ps ++ [(z1, q.1)]) q.2.1 q.2.2 c2 _ (by omega) (by rw [List.length_append]; show ps.length + 1 = j + 1; omega) h2 (by omega) ha2 (nd_trans hn (nd_trans (nd_mono (fun x hx => by omega) n1) (nd_mono (fun x hx => by omega) g2))) (by omega)
    rw [ea] at this
    have el : ∀ l : List mk_R, ca_a ps ++ [q.1] ++ l = ca_a ps ++ q.1 :: l := fun l => by rw [List.append_assoc]; rfl
    simp only [el] at this
    exact this
theorem cm_call (hX : cm_X b v pg S0) (hS : cm_S b v pg S0 r) (hr : r + 1 ≤ 96) (h : cm_h b v pg S0 N s c S) (hc : c < s.2.1) (ht : nd_t (b + 1) S0 0 1500 d y t) (hf : tr_n t < pg.length) (hfv : tr_v t = Int32.ofNat (tr_n t)) (hl : tr_a t = pg_n pg (tr_n t)) : cm_R b v pg S0 (r + 1) c (s.2.1 - 1) S (mk_ca pg (mk pg r) N s t) (fn_Maker_becomeCall (rc_Maker_become (2 * r + 8)) (Int32.ofNat y) (Int32.ofNat (96 - (r + 1))) S) := by
  obtain ⟨t9, t0, t8, gL, -⟩ := cm_vv hX
  have ha4 := hX.2.2.2.2.2.2.2.2 (tr_n t)
  obtain ⟨e1, h1, g1, o1⟩ := cm_op hX h hc (k := 5) (x := 0)
  unfold fn_Maker_becomeCall mk_ca
  rw [cm_r4 hX h.1, if_pos t8, e1, wd_c_s]
  rw [if_neg (by decide)] at o1
  have := cm_args (g := s.2.1 - 1) (S9 := S) hX hS hr ht hf hfv hl (tr_a t) 0 (999999 - tr_a t) [] N s (c + 1) _ rfl rfl h1 (Nat.lt_succ_self c) ⟨o1, by decide, fun p hp => absurd hp List.not_mem_nil⟩ (nd_mono (fun x hx => by omega) g1) (by omega)
  rw [show 999999 - tr_a t + 1 + tr_a t = wd_F by rw [show wd_F = 1000000 from rfl]; omega] at this
  exact this
end Cm6
