/-! The class's maker: calls. -/
theorem ev_er1 {P : List tr_T} {self : ev_P} (hs : ∀ V s m t e, self V s m t = .error (some e) → e.1 = 2 ∨ e.1 = 3) : ∀ (t : tr_T) (r j : Nat) (V : ev_V) (s m : Nat) (e : Int32 × Nat × Nat), ev_args self t r j V s m = .error (some e) → e.1 = 2 ∨ e.1 = 3 := by
  intro t r
  induction r with
  | zero => intro j V s m e h; cases h
  | succ r ih =>
    intro j V s m e h
    unfold ev_args at h
    cases h1 : self V s m (tr_sub t j) with
    | error e1 => rw [h1] at h; cases h; exact hs _ _ _ _ _ h1
    | ok q =>
      rw [h1] at h
      have h : ev_b (ev_args self t r (j + 1) q.2.1 q.2.2.1 q.2.2.2) (fun w => .ok (q.1 :: w.1, w.2)) = .error (some e) := h
      cases h2 : ev_args self t r (j + 1) q.2.1 q.2.2.1 q.2.2.2 with
      | error e1 => rw [h2] at h; cases h; exact ih _ _ _ _ _ h2
      | ok w => rw [h2] at h; cases h
theorem ev_b_er {α β : Type} {x : Except ev_E α} {f : α → Except ev_E β} {e : ev_E} (h : ev_b x f = .error e) : x = .error e ∨ ∃ a, x = .ok a ∧ f a = .error e := by
  cases x with
  | error e1 => cases h; exact Or.inl rfl
  | ok a => exact Or.inr ⟨a, rfl, h⟩
theorem ev_er {P : List tr_T} {lim : Nat} : ∀ (r : Nat) (V : ev_V) (s m : Nat) (t : tr_T) (e : Int32 × Nat × Nat), ev P lim r V s m t = .error (some e) → e.1 = 2 ∨ e.1 = 3 := by
  intro r
  induction r with
  | zero =>
    intro V s m t e h
    unfold ev at h
    split at h
    · cases h; exact Or.inl rfl
    · cases h; exact Or.inr rfl
  | succ r ih =>
    intro V s m t e h
    unfold ev at h
    split at h
    · cases h; exact Or.inl rfl
    · unfold ev_in at h
      split at h
      · split at h
        · cases h
        · split at h
          · split at h
            · cases h
            · cases h
          · split at h
            · rcases ev_b_er h with h1 | ⟨a, h1, h2⟩
              · exact ih _ _ _ _ _ h1
              · exact ih _ _ _ _ _ h2
            · split at h
              · rcases ev_b_er h with h1 | ⟨a, h1, h2⟩
                · exact ih _ _ _ _ _ h1
                · exact ih _ _ _ _ _ h2
              · split at h
                · rcases ev_b_er h with h1 | ⟨a, h1, h2⟩
                  · exact ev_er1 (P := P) ih _ _ _ _ _ _ _ h1
                  · rcases ev_b_er h2 with h3 | ⟨w, h3, h4⟩
                    · exact ih _ _ _ _ _ h3
                    · cases h4
                · rcases ev_b_er h with h1 | ⟨a, h1, h2⟩
                  · exact ih _ _ _ _ _ h1
                  · rcases ev_b_er h2 with h3 | ⟨w, h3, h4⟩
                    · exact ih _ _ _ _ _ h3
                    · cases h4
      · cases h
section Cm5
variable {b v : Nat} {pg : pg_T} {S0 S S' S1 S2 S9 : wd_S} {N N' : mk_N} {s s' : mk_S} {c c1 c' y z d r g n f k : Nat} {t : tr_T} {ps qs : ca_T}
theorem cm_ho (hX : cm_X b v pg S0) {W : Nat → Nat → Prop} (ho : of_r W cx_R S S') (hW : ∀ a k, W a k → cm_W v a k ∧ a ≠ 115 ∧ a ≠ 117 ∧ a ≠ 119 ∧ (a ≤ v ∨ v + 24 < a)) (h : cm_h b v pg S0 N s c S) : cm_h b v pg S0 N s c S' := by
  have hv := hX.2.1
  obtain ⟨a1, a2, a3, a4, a5, a6, a7, a8, a9⟩ := h
  have e : ∀ k, S'.1 115 k = S.1 115 k := fun k => ho.1 115 k (fun q => (hW _ _ q).2.1 rfl)
  exact ⟨ofr_trans a1 ⟨fun a k q => ho.1 a k (fun z => q (hW a k z).1), fun a k q => ho.2.1 a k (fun z => q (hW a k z).1), ho.2.2.1, ho.2.2.2⟩, by rw [e]; exact a2, by rw [e]; exact a3, by rw [e]; exact a4, by rw [ho.1 (v + 2) 6 (fun q => by have := (hW _ _ q).2.2.2.2; omega)]; exact a5, a6, a7, cm_oe ho (fun k => ⟨fun q => (hW _ _ q).2.2.1 rfl, fun q => (hW _ _ q).2.2.2.1 rfl⟩) a8, cm_ov hv ho (fun a k q => by have := (hW a k q).2.2.2.2; omega) a9⟩
theorem cm_hn (hX : cm_X b v pg S0) {W : Nat → Nat → Prop} (ho : of_r W cx_R S S') (hW : ∀ a k, W a k → (a ≤ v + 1 ∨ v + 14 < a)) (p : Nat → Prop) : nd_g (v + 2) p S S' := nd_rows (fun a h1 h2 => funext fun k => ho.1 a k (fun q => by have := hW a k q; omega))
theorem cm_pn (hX : cm_X b v pg S0) (ho : of_r (cm_W v) cx_R S0 S) (hf : f < pg.length) : S.1 (b + 17) f = Int32.ofNat (pg_n pg f) := by
  have hb := hX.1
  rw [cm_row hX ho (b + 17) (by omega), (hX.2.2.2.2.2.2.1.2 f hf).1]
  unfold pg_n
  rw [List.getD_eq_getElem?_getD, List.getElem?_eq_getElem hf]
  rfl
theorem cm_cg (hX : cm_X b v pg S0) (ho : of_r (cm_W v) cx_R S0 S) : cg_P b 1500 96 (pg_P pg) S := fun j hj => by
  have hb := hX.1
  have hj2 : j < pg.length := by unfold pg_P at hj; rw [List.length_map] at hj; exact hj
  obtain ⟨-, y, h1, h2, -⟩ := hX.2.2.2.2.2.2.1.2 j hj2
  refine ⟨y, by rw [cm_row hX ho (b + 15) (by omega)]; exact h1, nd_t_g (nd_rows (fun a q1 q2 => cm_row hX ho a (by omega))) _ _ _ ?_⟩
  rw [show (pg_P pg)[j] = pg[j].2.1 from List.getElem_map _]
  exact h2
/-- the arguments of the call at c -/
def ca_h (v r c c1 : Nat) (S : wd_S) (x : Int32) (ps : ca_T) : Prop := nd_o (v + 2) S c 5 x (ca_z ps) (1 + mk_sz (ca_a ps)) (mk_lt (ca_a ps)) ∧ ps.length ≤ 4 ∧ ∀ p, p ∈ ps → nd_t (v + 2) S (c + 1) c1 r p.1 p.2.1 ∧ (tr_k p.2.1 = 1 → p.2.2 = (1, 0))
theorem ca_g {x : Int32} (hcc : c < c1) (hg : nd_g (v + 2) (fun x => x < c1) S S') (h : ca_h v r c c1 S x ps) : ca_h v r c c1 S' x ps := ⟨nd_o_g (p := fun x => x < c1) hcc hg h.1, h.2.1, fun p hp => ⟨nd_t_g (nd_mono (fun x hx => hx.2) hg) _ _ _ (h.2.2 p hp).1, (h.2.2 p hp).2⟩⟩
/-- the call leads to version k -/
theorem cm_109 (hX : cm_X b v pg S0) (h : cm_h b v pg S0 N s c1 S) (hcc : c < c1) (ha : ca_h v r c c1 S 0 qs) (hn : nd_g (v + 2) (fun x => x < c) S9 S) (hg : c1 + g ≤ s.2.1 + c) : ∃ S', fn_Maker_leadToVersion_109 (Int32.ofNat c) (Int32.ofNat k) S = some S' ∧ cm_G b v pg S0 (r + 1) c g S9 (mk_cl k (ca_a qs), N, s) c c1 S' := by
  obtain ⟨t9, t0, t8, ⟨g2, g4, g6, g8, g10, g12⟩, -⟩ := cm_vv hX
  have h5 := h.2.2.2.2.2.1
  have h7 := h.2.2.2.2.2.2.1
  unfold fn_Maker_leadToVersion_109
  rw [cm_r4 hX h.1, if_pos t8, fo_lead, wd_d_s, ro_pn (r := v + 2 + 3) g4 (show c < 1000 by omega)]
  generalize hS1 : wd_i S (v + 2 + 3 + 1) c (Int32.ofNat k) = S1
  have e : ∀ a j, ¬(a = v + 2 + 3 + 1 ∧ j = c) → S1.1 a j = S.1 a j := fun a j q => by rw [← hS1, fr_ne q]
  have e2 : S1.2 = S.2 := by rw [← hS1]; rfl
  have ev4 : S1.1 (v + 2 + 4) c = Int32.ofNat k := by rw [← hS1, fr_e (by omega)]
  have gn : nd_g (v + 2) (fun x => x ≠ c) S S1 := fun x hx => ⟨e _ _ (by omega), e _ _ (by omega), e _ _ (by omega), e _ _ (by omega), e _ _ (by omega), fun j _ => e _ _ (by omega)⟩
  obtain ⟨⟨o2, o4, o6, o10, o12, o8⟩, hl4, hps⟩ := ha
  have o' : nd_o (v + 2) S1 c 5 (Int32.ofNat k) (ca_z qs) (1 + mk_sz (ca_a qs)) (mk_lt (ca_a qs)) := ⟨by rw [e _ _ (by omega)]; exact o2, ev4, by rw [e _ _ (by omega)]; exact o6, by rw [e _ _ (by omega)]; exact o10, by rw [e _ _ (by omega)]; exact o12, fun j hj hz => by rw [e _ _ (by omega)]; exact o8 j hj hz⟩
  refine ⟨S1, rfl, cm_t hX (fun a ha => funext fun j => e a j (by omega)) e2 (by rw [e _ _ (by omega)]; exact h.2.2.2.2.1) h5 h, hg, nd_trans hn (nd_mono (fun x hx => by omega) gn), ?_, o'.2.2.2.1, o'.2.2.2.2.1, fun q => absurd q (show ¬(5 : Int32) = 1 by decide)⟩
  have et : (mk_cl k (ca_a qs)).1 = tr_mk 5 (Int32.ofNat k) 0 (ca_z qs).length (tr_ls ((ca_a qs).map (fun a => a.1))) := by
    unfold mk_cl ca_z ca_a
    rw [List.length_map, List.length_map]
  show nd_t (v + 2) S1 c c1 (r + 1) c (mk_cl k (ca_a qs)).1
  rw [et]
  refine nd_t_mk (Nat.le_refl _) hcc o' (fun j hj => ?_)
  have hj2 : j < qs.length := by unfold ca_z at hj; rw [List.length_map] at hj; exact hj
  have e1 : (ca_z qs)[j] = qs[j].1 := List.getElem_map _
  have e3 : tr_ls ((ca_a qs).map (fun a => a.1)) j = qs[j].2.1 := by
    unfold tr_ls ca_a
    rw [List.getD_eq_getElem?_getD, List.getElem?_map, List.getElem?_map, List.getElem?_eq_getElem hj2]
    rfl
  rw [e1, e3]
  exact nd_t_r (Nat.le_succ _) (Nat.le_refl _) _ _ _ (nd_t_g (nd_mono (fun x hx => by omega) gn) _ _ _ (hps _ (List.getElem_mem hj2)).1)
/-- NUMBERS among the arguments go -/
theorem cm_drop (hX : cm_X b v pg S0) (h : cm_h b v pg S0 N s c1 S) (hcc : c < c1) (ha : ca_h v r c c1 S 0 ps) : ∃ S', fn_Trees_dropNumbers (v + 2) (Int32.ofNat c) S = some S' ∧ cm_h b v pg S0 N s c1 S' ∧ nd_g (v + 2) (fun x => x ≠ c) S S' ∧ ca_h v r c c1 S' 0 (ca_k ps) ∧ of_f (fun a k => v + 2 < a ∧ a ≤ v + 14) S S' := by
  obtain ⟨t9, t0, t8, gL, -⟩ := cm_vv hX
  have h5 := h.2.2.2.2.2.1
  have h7 := h.2.2.2.2.2.2.1
  obtain ⟨⟨o2, o4, o6, o10, o12, o8⟩, hl4, hps⟩ := ha
  have hlz : (ca_z ps).length = ps.length := List.length_map _
  unfold fn_Trees_dropNumbers
  obtain ⟨S', f1, o1, q1, q2, q3⟩ := cm_dr4 (n := ps.length) gL (show c < 1000 by omega) hl4 ps [] 0 1 (999999 - ps.length) S (Nat.zero_add _) (Nat.le_refl _) (by rw [o6, hlz]) o10 (fun j hj => absurd hj (Nat.not_lt_zero _)) (fun j hj => by
    rw [Nat.zero_add, o8 j (by omega) (by rw [hlz]; exact hj)]
    exact congrArg Int32.ofNat (List.getElem_map _)) (fun p hp => by
    obtain ⟨k1, k2, k3, k4⟩ := cm_nk (hps p hp).1
    exact ⟨by omega, k1, (hps p hp).2⟩)
  rw [show 999999 - ps.length + 1 + ps.length = wd_F by rw [show wd_F = 1000000 from rfl]; omega] at f1
  rw [List.nil_append] at q1
  have gn : nd_g (v + 2) (fun x => x ≠ c) S S' := fun x hx => ⟨o1.1 _ _ (by omega), o1.1 _ _ (by omega), o1.1 _ _ (by omega), o1.1 _ _ (by omega), o1.1 _ _ (by omega), fun j _ => o1.1 _ _ (by omega)⟩
  have hkl : (ca_k ps).length ≤ ps.length := List.length_filter_le _ _
  refine ⟨S', f1, cm_tw hX (ofr_of (fun a k q => by omega) o1) (by rw [o1.1 _ _ (by omega)]; exact h.2.2.2.2.1) h5 h, gn, ⟨⟨?_, ?_, ?_, q2, ?_, fun j hj hz => ?_⟩, by omega, fun p hp => ?_⟩, of_mono (fun a k q => by omega) o1⟩
  · rw [o1.1 _ _ (by omega)]; exact o2
  · rw [o1.1 _ _ (by omega)]; exact o4
  · rw [q1]
    exact congrArg Int32.ofNat (List.length_map _).symm
  · rw [o1.1 _ _ (by omega), o12, ca_lt (fun p hp => (hps p hp).2)]
  · have hz2 : j < (ca_k ps).length := by unfold ca_z at hz; rw [List.length_map] at hz; exact hz
    rw [q3 j (by rw [List.nil_append]; exact hz2)]
    exact congrArg Int32.ofNat (List.getElem_map (fun p : Nat × mk_R => p.1) (l := ca_k ps)).symm
  · have hp2 : p ∈ ps := (List.mem_filter.mp hp).1
    exact ⟨nd_t_g (nd_mono (fun x hx => by omega) gn) _ _ _ (hps p hp2).1, (hps p hp2).2⟩
/-- a call that stays leads to its version -/
theorem cm_lead (hX : cm_X b v pg S0) (h : cm_h b v pg S0 N s c1 S) (hcc : c < c1) (ha : ca_h v r c c1 S 0 ps) (hn : nd_g (v + 2) (fun x => x < c) S9 S) (hg : c1 + g ≤ s.2.1 + c) (hf : f < pg.length) (hl : ps.length = pg_n pg f) (hkn : ∀ j, j < ps.length → mk_nb (ca_a ps) j = true → S.1 121 j = mk_kn (ca_a ps) j) : ∃ S', fn_Maker_leadToVersion (Int32.ofNat c) (Int32.ofNat f) (Int32.ofNat (mk_ma (ca_a ps))) S = some S' ∧ cm_G b v pg S0 (r + 1) c g S9 ((mk_go f (ca_a ps) s).1, N, (mk_go f (ca_a ps) s).2) c c1 S' := by
  obtain ⟨t9, t0, t8, gL, z16, z18, z20, z22, z24⟩ := cm_vv hX
  obtain ⟨u0, u8, uL, u15, u17⟩ := cm_bb hX
  have hv := hX.2.1
  have hb := hX.1
  have hpl := hX.2.2.2.2.2.2.2.1
  have hpn := hX.2.2.2.2.2.2.2.2
  have hT : cv_T v := ⟨hv, z18, z20, z22, z24⟩
  have h9 := h.2.2.2.2.2.2.2.2
  have hlv := mk_ok_len h9.2.1
  have hla : (ca_a ps).length = ps.length := List.length_map _
  have hm2 : mk_ma (ca_a ps) < 2 ^ pg_n pg f := by
    unfold mk_ma
    rw [hla, hl]
    exact mk_mk_lt _ _
  have hp16 : 2 ^ pg_n pg f ≤ 2 ^ 4 := Nat.pow_le_pow_right (by decide) (hpn _)
  have hm16 : mk_ma (ca_a ps) < 16 := by omega
  have hk4 : ∀ i, i < 4 → mk_bt (mk_ma (ca_a ps)) i = true → S.1 121 i = mk_kn (ca_a ps) i := fun i _ hb => by
    unfold mk_ma at hb
    rw [mk_mk_bt, hla, Bool.and_eq_true] at hb
    exact hkn i (of_decide_eq_true hb.1) hb.2
  have hk0 : ∀ i, i < 4 → mk_bt 0 i = true → S.1 121 i = mk_kn (ca_a ps) i := fun i _ hb => by rw [mk_bt_0] at hb; cases hb
  have hneg : ∀ k : Nat, k < 1000 → ¬Int32.ofNat k = -1 := fun k hk q => im_neg (n := k) (by omega) (by rw [q]; decide)
  obtain ⟨d1, d2, d3⟩ := mk_ld_ok (as := ca_a ps) (kn := mk_kn (ca_a ps)) h9.2.1 hf hm2
  have eg : mk_go f (ca_a ps) s = (mk_cl (mk_ld f (mk_ma (ca_a ps)) (mk_kn (ca_a ps)) (ca_a ps) s.1).1 (mk_ld f (mk_ma (ca_a ps)) (mk_kn (ca_a ps)) (ca_a ps) s.1).2.1, (mk_ld f (mk_ma (ca_a ps)) (mk_kn (ca_a ps)) (ca_a ps) s.1).2.2, s.2) := rfl
  rw [eg]
  clear eg
  /- a new version, then led there -/
  have hadd : ∀ (m : Nat) (qs : ca_T) (S1 : wd_S), cm_h b v pg S0 N s c1 S1 → ca_h v r c c1 S1 0 qs → nd_g (v + 2) (fun x => x < c) S9 S1 → (∀ i, i < 4 → mk_bt m i = true → S1.1 121 i = mk_kn (ca_a ps) i) → mk_ok pg (s.1 ++ [mk_new f m (mk_kn (ca_a ps))]) → ∃ S', fn_Maker_leadToVersion_92 (Int32.ofNat c) (Int32.ofNat f) v (Int32.ofNat f) (Int32.ofNat m) S1 = some S' ∧ cm_G b v pg S0 (r + 1) c g S9 (mk_cl s.1.length (ca_a qs), N, s.1 ++ [mk_new f m (mk_kn (ca_a ps))], s.2) c c1 S' := fun m qs S1 g1 g2 g3 g4 g5 => by
    unfold fn_Maker_leadToVersion_92
    rw [cm_r1 hX g1.1, if_pos u0, fo_params, wd_c_s, ro_an (r := b + 16) u17 (show f < 48 by omega), show S1.1 (b + 16 + 1) f = Int32.ofNat (pg_n pg f) from cm_pn hX g1.1 hf]
    obtain ⟨S2, f2, o2, v2⟩ := cv_add (p := 120) hT g1.2.2.2.2.2.2.2.2 hpl hpn g5 rfl (by decide) g4
    rw [f2, wd_c_s]
    have o2r : of_r (cv_W v) cx_R S1 S2 := ofr_of (fun _ _ q => q) o2
    have h2 : cm_h b v pg S0 N (s.1 ++ [mk_new f m (mk_kn (ca_a ps))], s.2) c1 S2 := by
      obtain ⟨a1, a2, a3, a4, a5, a6, a7, a8, a9⟩ := g1
      have e : ∀ k, S2.1 115 k = S1.1 115 k := fun k => o2.1 115 k (by unfold cv_W; omega)
      exact ⟨ofr_trans a1 (ofr_of (fun a k q => by unfold cv_W at q; unfold cm_W; omega) o2), by rw [e]; exact a2, by rw [e]; exact a3, by rw [e]; exact a4, by rw [o2.1 (v + 2) 6 (by unfold cv_W; omega)]; exact a5, a6, a7, cm_oe o2r (fun k => by unfold cv_W; omega) a8, v2⟩
    have gn : ∀ p, nd_g (v + 2) p S1 S2 := fun p => nd_rows (fun a q1 q2 => funext fun j => o2.1 a j (by unfold cv_W; omega))
    exact cm_109 hX h2 hcc (ca_g hcc (gn _) g2) (nd_trans g3 (gn _)) hg
  unfold fn_Maker_leadToVersion
  rw [cm_r3 hX h.1, if_pos t9, cv_find (p := 120) hT hm16 (by omega) h9 hpl hpn rfl hk4, wd_c_s]
  unfold mk_ld at d1 d2 d3 ⊢
  cases e1 : mk_fd f (mk_ma (ca_a ps)) (mk_kn (ca_a ps)) s.1 0 with
  | some k =>
    obtain ⟨-, k1, -⟩ := mk_fd_lt _ _ _ e1
    dsimp only
    obtain ⟨S1, f1, h1, g1, c1', o1⟩ := cm_drop hX h hcc ha
    unfold fn_Maker_leadToVersion_33 fn_Maker_leadToVersion_38 fn_Maker_leadToVersion_71
    rw [if_neg (hneg k (by omega)), if_neg (by decide), cm_r4 hX h.1, if_pos t8, f1, wd_d_s, if_neg (hneg k (by omega)), ca_kp]
    exact cm_109 hX h1 hcc c1' (nd_trans hn (nd_mono (fun x hx => by omega) g1)) hg
  | none =>
    rw [e1] at d1 d2 d3
    dsimp only at d1 d2 d3 ⊢
    rw [if_pos rfl]
    unfold fn_Versions_count fn_Bodies_count
    rw [cm_r3 hX h.1, if_pos t9, wd_c_s, wd_c_s, h9.1]
    by_cases hlt : s.1.length < 30
    · rw [if_pos hlt] at d1 d2 d3 ⊢
      rw [if_pos (show Int32.ofNat s.1.length < 30 from (im_lt (m := s.1.length) (n := 30) (by omega) (by omega)).mpr hlt)]
      obtain ⟨S1, f1, h1, g1, c1', o1⟩ := cm_drop hX h hcc ha
      unfold fn_Maker_leadToVersion_33 fn_Maker_leadToVersion_38 fn_Maker_leadToVersion_71
      rw [if_neg (by decide), cm_r4 hX h.1, if_pos t8, f1, wd_d_s, if_pos rfl, cm_r3 hX h1.1, if_pos t9, if_neg (by decide), ca_kp]
      exact hadd _ _ S1 h1 c1' (nd_trans hn (nd_mono (fun x hx => by omega) g1)) (fun i q1 q2 => by rw [o1.1 121 i (by omega)]; exact hk4 i q1 q2) d1
    · rw [if_neg hlt] at d1 d2 d3 ⊢
      rw [if_neg (show ¬Int32.ofNat s.1.length < 30 from fun q => hlt ((im_lt (m := s.1.length) (n := 30) (by omega) (by omega)).mp q))]
      unfold fn_Maker_leadToVersion_38 fn_Maker_leadToVersion_71
      rw [if_pos rfl, cm_r3 hX h.1, if_pos t9, show (0 : Int32) = Int32.ofNat 0 from rfl, cv_find (p := 120) (m := 0) hT (by decide) (by omega) h9 hpl hpn rfl hk0, wd_c_s]
      cases e2 : mk_fd f 0 (mk_kn (ca_a ps)) s.1 0 with
      | some k =>
        obtain ⟨-, k1, -⟩ := mk_fd_lt _ _ _ e2
        dsimp only
        rw [if_neg (hneg k (by omega))]
        exact cm_109 hX h hcc ha hn hg
      | none =>
        rw [e2] at d1 d2 d3
        dsimp only at d1 d2 d3 ⊢
        rw [if_pos rfl, cm_r3 hX h.1, if_pos t9, if_pos rfl]
        exact hadd 0 ps S h ha hn hk0 d1
end Cm5
