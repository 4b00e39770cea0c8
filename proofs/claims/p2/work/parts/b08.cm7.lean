/-! The class's maker: what becomes of any EXPRESSION. -/
section Cm7
variable {b v : Nat} {pg : pg_T} {S0 S S' S1 S2 S9 : wd_S} {N N' : mk_N} {s s' : mk_S} {c c1 c' y z d r g n f k : Nat} {t : tr_T}
theorem cm_up (hX : cm_X b v pg S0) (h : cm_h b v pg S0 N s c S) (hg : ¬1000 ≤ s.2.1) : cm_h b v pg S0 N (s.1, s.2.1 + 1, s.2.2) c (wd_i S 115 8 (Int32.ofNat (s.2.1 + 1))) ∧ ∀ p, nd_g (v + 2) p S (wd_i S 115 8 (Int32.ofNat (s.2.1 + 1))) := by
  have hv := hX.2.1
  have o : of_r (fun a k => a = 115 ∧ k = 8) cx_R S (wd_i S 115 8 (Int32.ofNat (s.2.1 + 1))) := ofr_i ⟨rfl, rfl⟩ ofr_refl
  obtain ⟨a1, a2, a3, a4, a5, a6, a7, a8, a9⟩ := h
  refine ⟨⟨ofr_trans a1 ⟨fun a k q => o.1 a k (fun z => q (by unfold cm_W; omega)), fun a k q => o.2.1 a k (fun z => q (by unfold cm_W; omega)), o.2.2.1, o.2.2.2⟩, fr_eq, by rw [fr_ne (by omega)]; exact a3, by rw [fr_ne (by omega)]; exact a4, by rw [fr_ne (by omega)]; exact a5, by show c ≤ s.2.1 + 1; omega, by show s.2.1 + 1 ≤ 1000; omega, cm_oe o (fun k => by omega) a8, cm_ov (s := s) hv o (fun a k q => by omega) a9⟩, cm_hn hX o (fun a k q => by omega)⟩
theorem rc_93 {n : Nat} {a e : Int32} : rc_Maker_become (n + 1) 93 a e S = fn_Maker_become (rc_Maker_become n) a e S := by rw [rc_Maker_become, if_pos rfl]
theorem rc_94 {n : Nat} {a e : Int32} : rc_Maker_become (n + 1) 94 a e S = fn_Maker_becomeLet (rc_Maker_become n) a e S := by rw [rc_Maker_become, if_neg (by decide), if_pos rfl]
theorem rc_97 {n : Nat} {a e : Int32} : rc_Maker_become (n + 1) 97 a e S = fn_Maker_becomeIf (rc_Maker_become n) a e S := by rw [rc_Maker_become, if_neg (by decide), if_neg (by decide), if_pos rfl]
theorem rc_98 {n : Nat} {a e : Int32} : rc_Maker_become (n + 1) 98 a e S = fn_Maker_becomeCall (rc_Maker_become n) a e S := by rw [rc_Maker_become, if_neg (by decide), if_neg (by decide), if_neg (by decide), if_pos rfl]
theorem rc_115 {n : Nat} {a e : Int32} : rc_Maker_become (n + 1) 115 a e S = fn_Maker_becomeSign (rc_Maker_become n) a e S := by rw [rc_Maker_become, if_neg (by decide), if_neg (by decide), if_neg (by decide), if_neg (by decide), if_pos rfl]
theorem cm_s (hX : cm_X b v pg S0) (hS : cm_S b v pg S0 r) (hr : r + 1 ≤ 96) : cm_S b v pg S0 (r + 1) := by
  intro N s c y t d S h ht
  obtain ⟨t9, t0, t8, gL, -⟩ := cm_vv hX
  obtain ⟨u0, u8, -⟩ := cm_bb hX
  have h6 := h.2.2.2.2.2.1
  have h7 := h.2.2.2.2.2.2.1
  show cm_R b v pg S0 (r + 1) c s.2.1 S (if 1000 ≤ s.2.1 then .error (some ()) else mk_in pg (mk pg r) N (s.1, s.2.1 + 1, s.2.2) t) _
  rw [show 2 * (r + 1) + 8 = 2 * r + 8 + 1 + 1 by omega, rc_93]
  unfold fn_Maker_become fn_Maker_become_16
  rw [h.2.1]
  by_cases hg : 1000 ≤ s.2.1
  · rw [if_pos hg, if_neg (show ¬Int32.ofNat s.2.1 < 1000 from fun q => by have := (im_lt (m := s.2.1) (n := 1000) (by omega) (by omega)).mp q; omega)]
    exact ⟨S, rfl, h.1⟩
  · rw [if_neg hg, if_pos (show Int32.ofNat s.2.1 < 1000 from (im_lt (m := s.2.1) (n := 1000) (by omega) (by omega)).mpr (by omega)), if_pos (show Int32.ofNat (96 - (r + 1)) < 96 from (im_lt (m := 96 - (r + 1)) (n := 96) (by omega) (by omega)).mpr (by omega))]
    simp only [wd_b]
    rw [im_s]
    obtain ⟨h1, n1⟩ := cm_up hX h hg
    generalize wd_i S 115 8 (Int32.ofNat (s.2.1 + 1)) = S1 at *
    have hc : c < ((s.1, s.2.1 + 1, s.2.2) : mk_S).2.1 := by show c < s.2.1 + 1; omega
    rw [cm_r2 hX h1.1, if_pos u8, (cm_node hX h1.1 ht).1, wd_c_s]
    unfold mk_in
    by_cases ok : ev_ok pg.length t
    · rw [if_pos ok]
      have fin : ∀ x o, cm_R b v pg S0 (r + 1) c ((s.2.1 + 1) - 1) S1 x o → cm_R b v pg S0 (r + 1) c s.2.1 S x o := fun x o q => cm_mono q (n1 _) (Nat.le_refl _) (Nat.le_refl _) (by omega)
      by_cases k1 : tr_k t = 1
      · rw [if_pos k1, if_pos k1, cm_r4 hX h1.1, if_pos t8, cm_r2 hX h1.1, if_pos u8, (cm_node hX h1.1 ht).2.1, wd_c_s]
        obtain ⟨S2, f2, G2⟩ := cm_leaf (r := r) hX h1 hc (g := s.2.1) (k := 1) (x := tr_v t) (Nat.le_refl _) (by decide) (n1 (fun x => x < c)) (Nat.le_refl _) (by show c + 1 + s.2.1 ≤ s.2.1 + 1 + c; omega)
        rw [f2, wd_c_s]
        exact ⟨c, c + 1, S2, rfl, G2⟩
      · rw [if_neg k1, if_neg k1]
        by_cases k2 : tr_k t = 2
        · have hn : tr_v t = Int32.ofNat (tr_n t) ∧ tr_n t < 16 := by
            rcases ok with q | ⟨-, q1, q2⟩ | ⟨q, -⟩ | ⟨q, -⟩ | ⟨q, -⟩ | ⟨q | q | q | q | q, -⟩
            · exact absurd q k1
            · exact ⟨q1, q2⟩
            all_goals (rw [k2] at q; exact absurd q (by decide))
          rw [if_pos k2, if_pos k2, cm_r2 hX h1.1, if_pos u8, (cm_node hX h1.1 ht).2.1, wd_c_s, cm_r4 hX h1.1, if_pos t8, ro_at_ok, wd_c_s, hn.1, ro_an cm_117 hn.2]
          cases hN : N (tr_n t) with
          | none => trivial
          | some q =>
            obtain ⟨m1, m2, m3⟩ := h1.2.2.2.2.2.2.2.1 (tr_n t) q hN
            unfold fn_Maker_become_127
            rw [ro_at_ok, wd_c_s, ro_an cm_119 hn.2, m2, m3]
            unfold mk_name
            cases hb : q.1 with
            | true =>
              rw [if_pos (rfl : true = true), if_pos (rfl : (1 : Int32) = 1)]
              dsimp only
              rw [if_pos hb]
              obtain ⟨S2, f2, G2⟩ := cm_leaf (r := r) hX h1 hc (g := s.2.1) (k := 1) (x := q.2) (Nat.le_refl _) (by decide) (n1 (fun x => x < c)) (Nat.le_refl _) (by show c + 1 + s.2.1 ≤ s.2.1 + 1 + c; omega)
              rw [f2, wd_c_s]
              exact ⟨c, c + 1, S2, rfl, G2⟩
            | false =>
              rw [if_neg (show ¬false = true by decide), if_neg (show ¬(0 : Int32) = 1 by decide), wd_c_s]
              dsimp only
              rw [if_neg (show ¬q.1 = true by rw [hb]; decide)]
              obtain ⟨S2, f2, G2⟩ := cm_leaf (r := r) hX h1 hc (g := s.2.1) (k := 2) (x := q.2) (Nat.le_refl _) (by decide) (n1 (fun x => x < c)) (Nat.le_refl _) (by show c + 1 + s.2.1 ≤ s.2.1 + 1 + c; omega)
              rw [f2, wd_c_s]
              exact ⟨c, c + 1, S2, rfl, G2⟩
        · rw [if_neg k2, if_neg k2]
          by_cases k3 : tr_k t = 3
          · have hn : tr_v t = Int32.ofNat (tr_n t) ∧ tr_n t < 16 ∧ tr_a t = 2 := by
              rcases ok with q | ⟨q, -⟩ | ⟨-, q1, q2, q3⟩ | ⟨q, -⟩ | ⟨q, -⟩ | ⟨q | q | q | q | q, -⟩
              · exact absurd q k1
              · exact absurd q k2
              · exact ⟨q1, q2, q3⟩
              all_goals (rw [k3] at q; exact absurd q (by decide))
            rw [if_pos k3, if_pos k3, rc_94]
            exact fin _ _ (cm_K (cm_let hX hS hr h1 hc ht hn.2.2 hn.1 hn.2.1))
          · rw [if_neg k3, if_neg k3]
            by_cases k4 : tr_k t = 4
            · have hn : tr_a t = 3 := by
                rcases ok with q | ⟨q, -⟩ | ⟨q, -⟩ | ⟨-, q1⟩ | ⟨q, -⟩ | ⟨q | q | q | q | q, -⟩
                · exact absurd q k1
                · exact absurd q k2
                · exact absurd q k3
                · exact q1
                all_goals (rw [k4] at q; exact absurd q (by decide))
              rw [if_pos k4, if_pos k4, rc_97]
              exact fin _ _ (cm_K (cm_if hX hS hr h1 hc ht hn))
            · rw [if_neg k4, if_neg k4]
              by_cases k5 : tr_k t = 5
              · have hn : tr_v t = Int32.ofNat (tr_n t) ∧ tr_n t < pg.length := by
                  rcases ok with q | ⟨q, -⟩ | ⟨q, -⟩ | ⟨q, -⟩ | ⟨-, -, q1, q2⟩ | ⟨q | q | q | q | q, -⟩
                  · exact absurd q k1
                  · exact absurd q k2
                  · exact absurd q k3
                  · exact absurd q k4
                  · exact ⟨q1, q2⟩
                  all_goals (rw [k5] at q; exact absurd q (by decide))
                rw [if_pos k5, if_pos k5, rc_98]
                by_cases hl : tr_a t = pg_n pg (tr_n t)
                · rw [if_pos hl]
                  exact fin _ _ (cm_K (cm_call hX hS hr h1 hc ht hn.2 hn.1 hl))
                · rw [if_neg hl]
                  trivial
              · have hn : (tr_k t = 6 ∨ tr_k t = 7 ∨ tr_k t = 8 ∨ tr_k t = 9 ∨ tr_k t = 10) ∧ tr_a t = 2 := by
                  rcases ok with q | ⟨q, -⟩ | ⟨q, -⟩ | ⟨q, -⟩ | ⟨q, -⟩ | q
                  · exact absurd q k1
                  · exact absurd q k2
                  · exact absurd q k3
                  · exact absurd q k4
                  · exact absurd q k5
                  · exact q
                rw [if_neg k5, if_neg k5, rc_115]
                exact fin _ _ (cm_K (cm_sign hX hS hr h1 hc ht hn.1 hn.2))
    · rw [if_neg ok]
      trivial
theorem cm_all (hX : cm_X b v pg S0) : ∀ r, r ≤ 96 → cm_S b v pg S0 r := by
  intro r
  induction r with
  | zero => intro _ N s c y t d S h ht; trivial
  | succ r ih => intro hr; exact cm_s hX (ih (by omega)) hr
/-- less is known of names -/
theorem cm_less (hN : ∀ i q, N' i = some q → N i = some q) (h : cm_h b v pg S0 N s c S) : cm_h b v pg S0 N' s c S := by
  obtain ⟨a1, a2, a3, a4, a5, a6, a7, a8, a9⟩ := h
  exact ⟨a1, a2, a3, a4, a5, a6, a7, fun i q hi => a8 i q (hN i q hi), a9⟩
/-- a version's PARAMS get their meanings -/
theorem cm_bp (hX : cm_X b v pg S0) (hk : k < s.1.length) : ∀ (r i F : Nat) (N : mk_N) (S : wd_S), i + r = pg_n pg s.1[k].1 → cm_h b v pg S0 N s c S → (∀ j, j < i → N j = mk_e (pg_n pg s.1[k].1) s.1[k] j) → ∃ S', fn_Maker_bindParams_4 (F + 1 + r) (Int32.ofNat k) (Int32.ofNat (mk_lf s.1[k].2.1 i)) (Int32.ofNat i) S = some S' ∧ cm_h b v pg S0 (mk_e (pg_n pg s.1[k].1) s.1[k]) s c S' ∧ nd_g (v + 2) (fun x => x < c) S S' := by
  obtain ⟨t9, t0, t8, gL, z16, z18, z20, z22, z24⟩ := cm_vv hX
  obtain ⟨u0, u8, uL, u15, u17⟩ := cm_bb hX
  have hpl := hX.2.2.2.2.2.2.2.1
  have hpn := hX.2.2.2.2.2.2.2.2 s.1[k].1
  intro r
  induction r with
  | zero =>
    intro i F N S hi h hN
    have hlv := mk_ok_len h.2.2.2.2.2.2.2.2.2.1
    obtain ⟨a1, a2, a3, a4⟩ := h.2.2.2.2.2.2.2.2.2.2 k hk
    obtain ⟨b1, b2⟩ := h.2.2.2.2.2.2.2.2.2.1.1 s.1[k] (List.getElem_mem hk)
    have hi : i = pg_n pg s.1[k].1 := hi
    refine ⟨S, ?_, cm_less (fun j q hj => ?_) h, nd_refl⟩
    · rw [Nat.add_zero, fn_Maker_bindParams_4, cm_r1 hX h.1, if_pos u0, cm_r3 hX h.1, if_pos t9]
      unfold fn_Versions_functionOf
      rw [ro_at_ok, wd_c_s, wd_c_s, ro_an (r := v + 19) z20 (show k < 78 by omega), show S.1 (v + 19 + 1) k = Int32.ofNat s.1[k].1 from a1, fo_params, wd_c_s, ro_an (r := b + 16) u17 (show s.1[k].1 < 48 by omega), show S.1 (b + 16 + 1) s.1[k].1 = Int32.ofNat (pg_n pg s.1[k].1) from cm_pn hX h.1 b1, hi, if_neg Int32.lt_irrefl]
    · have : j < i := by
        unfold mk_e at hj
        split at hj
        · omega
        · cases hj
      rw [hN j this]
      exact hj
  | succ r ih =>
    intro i F N S hi h hN
    have hlv := mk_ok_len h.2.2.2.2.2.2.2.2.2.1
    obtain ⟨a1, a2, a3, a4⟩ := h.2.2.2.2.2.2.2.2.2.2 k hk
    obtain ⟨b1, b2⟩ := h.2.2.2.2.2.2.2.2.2.1.1 s.1[k] (List.getElem_mem hk)
    have hp16 : 2 ^ pg_n pg s.1[k].1 ≤ 2 ^ 4 := Nat.pow_le_pow_right (by decide) hpn
    show ∃ S', fn_Maker_bindParams_4 (F + 1 + r + 1) (Int32.ofNat k) (Int32.ofNat (mk_lf s.1[k].2.1 i)) (Int32.ofNat i) S = some S' ∧ _
    rw [fn_Maker_bindParams_4, cm_r1 hX h.1, if_pos u0, cm_r3 hX h.1, if_pos t9]
    unfold fn_Versions_functionOf fn_Versions_mask fn_Versions_number fn_Maker_bindParams_66
    rw [ro_at_ok, wd_c_s, wd_c_s, ro_an (r := v + 19) z20 (show k < 78 by omega), show S.1 (v + 19 + 1) k = Int32.ofNat s.1[k].1 from a1, fo_params, wd_c_s, ro_an (r := b + 16) u17 (show s.1[k].1 < 48 by omega), show S.1 (b + 16 + 1) s.1[k].1 = Int32.ofNat (pg_n pg s.1[k].1) from cm_pn hX h.1 b1, if_pos ((im_lt (by omega) (by omega)).mpr (by omega)), cm_r3 hX h.1, if_pos t9, ro_at_ok, wd_c_s, wd_c_s, ro_an (r := v + 21) z22 (show k < 78 by omega), show S.1 (v + 21 + 1) k = Int32.ofNat s.1[k].2.1 from a2, cv_in (show s.1[k].2.1 < 16 by omega) (show i < 4 by omega), wd_c_s]
    have eN : mk_e (pg_n pg s.1[k].1) s.1[k] i = some (if mk_bt s.1[k].2.1 i = true then (true, s.1[k].2.2 i) else (false, Int32.ofNat (mk_lf s.1[k].2.1 i))) := if_pos (by omega)
    cases hb : mk_bt s.1[k].2.1 i with
    | false =>
      rw [hb, if_neg (show ¬false = true by decide)] at eN
      rw [if_neg (show ¬false = true by decide), if_pos rfl]
      obtain ⟨S1, f1, h1, g1⟩ := cm_bd hX h (n := i) (by omega) (e := false) (x := Int32.ofNat (mk_lf s.1[k].2.1 i))
      rw [if_neg (show ¬false = true by decide)] at f1
      rw [f1, wd_d_s, im_s, im_s]
      obtain ⟨S2, f2, h2, g2⟩ := ih (i + 1) F _ S1 (by omega) h1 (fun j hj => by
        unfold mk_u
        by_cases e : j = i
        · rw [if_pos e, e, eN]
        · rw [if_neg e]; exact hN j (by omega))
      have el : mk_lf s.1[k].2.1 (i + 1) = mk_lf s.1[k].2.1 i + 1 := by
        show mk_lf s.1[k].2.1 i + (if mk_bt s.1[k].2.1 i = true then 0 else 1) = _
        rw [hb, if_neg (show ¬false = true by decide)]
      rw [el] at f2
      exact ⟨S2, f2, h2, nd_trans (g1 _) g2⟩
    | true =>
      rw [hb, if_pos rfl] at eN
      rw [if_pos (rfl : true = true), if_neg (show ¬(1 : Int32) = 0 by decide), cm_r3 hX h.1, if_pos t9, ro_at_ok, wd_c_s, wd_c_s, show Int32.ofNat k * 4 + Int32.ofNat i = Int32.ofNat (4 * k + i) by rw [show (4 : Int32) = Int32.ofNat 4 from rfl, im_ma, Nat.mul_comm], ro_an (r := v + 23) z24 (show 4 * k + i < 312 by omega), show S.1 (v + 23 + 1) (4 * k + i) = s.1[k].2.2 i from a4 i (by omega)]
      obtain ⟨S1, f1, h1, g1⟩ := cm_bd hX h (n := i) (by omega) (e := true) (x := s.1[k].2.2 i)
      rw [if_pos rfl] at f1
      rw [f1, wd_d_s, im_s]
      obtain ⟨S2, f2, h2, g2⟩ := ih (i + 1) F _ S1 (by omega) h1 (fun j hj => by
        unfold mk_u
        by_cases e : j = i
        · rw [if_pos e, e, eN]
        · rw [if_neg e]; exact hN j (by omega))
      have el : mk_lf s.1[k].2.1 (i + 1) = mk_lf s.1[k].2.1 i := by
        show mk_lf s.1[k].2.1 i + (if mk_bt s.1[k].2.1 i = true then 0 else 1) = _
        rw [hb, if_pos rfl]
        rfl
      rw [el] at f2
      exact ⟨S2, f2, h2, nd_trans (g1 _) g2⟩
end Cm7
