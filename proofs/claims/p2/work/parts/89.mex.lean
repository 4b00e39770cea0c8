/-! The reference: any E. -/
section Mx
variable {T : Nat → Int32} {H n f m t k u c l w i : Nat} {S S' : wd_S}
theorem mx_w (h : mh_g T n f m t k u c l w i S) : mh_g T n f m t k u c l (w + 1) i (wd_i S 135 38 (Int32.ofNat (w + 1))) := by
  have hne : ∀ b, b ≠ 38 → (wd_i S 135 38 (Int32.ofNat (w + 1))).1 135 b = S.1 135 b := fun b hb => fr_ne (by omega)
  refine mh_u h (funext (fun b => fr_ne (by omega))) (fun k hk => hne k (by omega)) rfl (fr_ne (by omega)) ?_ ?_ ?_ ?_ ?_ fr_eq
  · rw [hne 35 (by decide)]; exact h.2.2.2.2.2.1
  · rw [hne 37 (by decide)]; exact h.2.2.2.2.2.2.1
  · rw [hne 30 (by decide)]; exact h.2.2.2.2.2.2.2.1
  · rw [hne 27 (by decide)]; exact h.2.2.2.2.2.2.2.2.1
  · rw [hne 28 (by decide)]; exact h.2.2.2.2.2.2.2.2.2.1
theorem mx_ex (h8 : n ≤ 8000) : ∀ (r : Nat) (sc : List (Int64 × Nat)), mp_C T n f H r 0 0 (4 * r) 1 4 (ps_ex (tk_K T n) (tk_V T n) r sc) := by
  intro r
  induction r with
  | zero =>
    intro sc i m t k u c l w S hm hs b1 b2 b3 b4 b5 b6
    have hp := mh_pop hm
    have hi := hm.1.2.2.2.2.1
    have OP : of_f (mp_W f m t k u c l H) S (wd_i S 135 35 (Int32.ofNat t)) := of_i (mw_35_W _ _ ⟨rfl, rfl⟩) of_refl
    have hloop : ∀ F, fn_Mo_parse_21 (F + 1) S = wd_d (fn_Mo_onE (wd_i S 135 35 (Int32.ofNat t))) (fn_Mo_parse_21 F) := fun F => by
      rw [mp_pop hm (by omega) F, hs, if_neg (by decide), if_pos rfl]
    generalize wd_i S 135 35 (Int32.ofNat t) = S0 at hp OP hloop
    have hw : w = 24 := by omega
    show ∃ g S', mp_go g S S' ∧ mp_R T n f H m t k u c l w 0 1 i S (if tk_K T n i = 3 ∨ tk_K T n i = 4 ∨ tk_K T n i = 7 ∨ tk_K T n i = 1 ∨ tk_K T n i = 2 ∨ tk_K T n i = 15 then .error (6, i) else .error (2, i)) g S'
    by_cases hb : tk_K T n i = 3 ∨ tk_K T n i = 4 ∨ tk_K T n i = 7 ∨ tk_K T n i = 1 ∨ tk_K T n i = 2 ∨ tk_K T n i = 15
    · obtain ⟨S2, e2, o2, r2⟩ := mt_stop (x := 6) (by decide) hp.1
      have hcode : fn_Mo_onE S0 = some S2 := by
        unfold fn_Mo_onE
        rw [me_begins hp.1, wd_c_s, if_pos hb, if_neg (by decide), if_pos (by rw [hp.2.2.2.2.2.2.2.2.2.2, hw]; rfl), e2, wd_d_s]
      rw [if_pos hb]
      exact ⟨1, S2, mp_g1 hloop hcode, of_trans OP (of_mono nx_W_W o2), r2, by omega⟩
    · obtain ⟨S2, e2, o2, r2⟩ := mt_stop (x := 2) (by decide) hp.1
      have hcode : fn_Mo_onE S0 = some S2 := by
        unfold fn_Mo_onE
        rw [me_begins hp.1, wd_c_s, if_neg hb, if_pos rfl, e2, wd_d_s]
      rw [if_neg hb]
      exact ⟨1, S2, mp_g1 hloop hcode, of_trans OP (of_mono nx_W_W o2), r2, by omega⟩
  | succ r ih =>
    intro sc
    have hgd : ∀ sc i m q, ps_ex (tk_K T n) (tk_V T n) r sc i m = .ok q → ps_good (tk_K T n) (4 * r) i m q := fun sc i m q hq => ps_ex_good r sc i m q hq
    have h52 := md_atom (f := f) (sc := sc) h8 (ih sc) hgd
    have h51 := ma_product h8 h52 (fun i m q hq => ps_atom_good hgd hq) (by decide) (by decide)
    have h50 := ma_sum h8 h51 (fun i m q hq => ps_two_good (fun i m q hq => ps_atom_good hgd hq) hq) (by decide) (by decide)
    intro i m t k u c l w S hm hs b1 b2 b3 b4 b5 b6
    have hp := mh_pop hm
    have hi := hm.1.2.2.2.2.1
    have OP : of_f (mp_W f m t k u c l H) S (wd_i S 135 35 (Int32.ofNat t)) := of_i (mw_35_W _ _ ⟨rfl, rfl⟩) of_refl
    have hloop : ∀ F, fn_Mo_parse_21 (F + 1) S = wd_d (fn_Mo_onE (wd_i S 135 35 (Int32.ofNat t))) (fn_Mo_parse_21 F) := fun F => by
      rw [mp_pop hm (by omega) F, hs, if_neg (by decide), if_pos rfl]
    generalize wd_i S 135 35 (Int32.ofNat t) = S0 at hp OP hloop
    have e38 := hp.2.2.2.2.2.2.2.2.2.2
    have k3 : S0.1 135 4 = 5 ↔ tk_K T n i = 3 := ma_tok (kk := 3) hp.1 (by decide)
    have k4 : S0.1 135 4 = 2 ↔ tk_K T n i = 4 := ma_tok (kk := 4) hp.1 (by decide)
    have h24 : ¬Int32.ofNat w = 24 := fun z => by have := (im_eq (m := w) (n := 24) (by omega) (by omega)).mp z; omega
    obtain ⟨S1, f1, m1, x1, o1⟩ := mh_push (xs := []) (x := 5) (y := 0) (mx_w hp) (by show t + 0 < 4000; omega) (fun j hj => absurd hj (Nat.not_lt_zero _))
    have OW : of_f (mp_W f m t k u c l H) S (wd_i S0 135 38 (Int32.ofNat (w + 1))) := mp_of_f2 (W := fun a b => a = 135 ∧ b = 38) (mw_nm (by omega) (fun a b z => by omega)) OP (of_i ⟨rfl, rfl⟩ of_refl)
    have O1 : of_f (mp_W f m t k u c l H) S S1 := mp_of_f2 (mw_p_le (by omega)) OW o1
    have t4 : S1.1 135 4 = S0.1 135 4 := by rw [o1.1 135 4 (by unfold mw_p; omega), fr_ne (by omega)]
    show ∃ g S', mp_go g S S' ∧ mp_R T n f H m t k u c l w (4 * (r + 1)) 1 i S (if tk_K T n i = 3 then ps_let (tk_K T n) (tk_V T n) (ps_ex (tk_K T n) (tk_V T n) r) sc i m else if tk_K T n i = 4 then ps_if (tk_K T n) (ps_ex (tk_K T n) (tk_V T n) r) sc i m else ps_cmp (tk_K T n) (tk_V T n) (ps_ex (tk_K T n) (tk_V T n) r) sc i m) g S'
    by_cases c3 : tk_K T n i = 3
    · rw [if_pos c3]
      have hb : tk_K T n i = 3 ∨ tk_K T n i = 4 ∨ tk_K T n i = 7 ∨ tk_K T n i = 1 ∨ tk_K T n i = 2 ∨ tk_K T n i = 15 := Or.inl c3
      obtain ⟨S2, f2, m2, a2, bb2, o2⟩ := mh_node (x := 3) (y := S1.1 135 5) m1 (by omega)
      have x2 := mh_s_o (S := S1) (S' := S2) (fun b _ => ⟨o2.1 152 b (by unfold mw_n; omega), o2.1 153 b (by unfold mw_n; omega)⟩) x1
      obtain ⟨S3, f3, m3, x3, o3⟩ := mh_push (x := 18) (y := Int32.ofNat c) m2 (by show t + 1 < 4000; omega) x2
      obtain ⟨S4, f4, m4, x4, o4⟩ := mh_push (x := 16) (y := Int32.ofNat c) m3 (by show t + 2 < 4000; omega) x3
      obtain ⟨S5, f5, m5, x5, o5⟩ := mh_push (x := 4) (y := 0) m4 (by show t + 3 < 4000; omega) x4
      obtain ⟨S6, f6, m6, x6, o6⟩ := mh_push (x := 1) (y := 6) m5 (by show t + 4 < 4000; omega) x5
      obtain ⟨S7, f7, m7, x7, o7⟩ := mh_push (x := 15) (y := Int32.ofNat c) m6 (by show t + 5 < 4000; omega) x6
      obtain ⟨S8, f8, m8, x8, o8⟩ := mh_push (x := 4) (y := 0) m7 (by show t + 6 < 4000; omega) x7
      obtain ⟨S9, f9, m9, x9, o9⟩ := mh_push (x := 1) (y := 13) m8 (by show t + 7 < 4000; omega) x8
      obtain ⟨Sa, fa, ma, xa, oa⟩ := mh_push (x := 13) (y := Int32.ofNat c) m9 (by show t + 8 < 4000; omega) x9
      obtain ⟨Sb, fb, ob, rb⟩ := mt_pass h8 ma.1 (by rw [c3]; decide)
      rw [c3] at rb
      have hcode : fn_Mo_onE S0 = some Sb := by
        unfold fn_Mo_onE fn_Mo_onE_229
        rw [me_begins hp.1, wd_c_s, if_pos hb, if_neg (by decide), e38, if_neg h24]
        simp only [wd_b]
        rw [im_s, f1, wd_d_s, if_pos (by rw [t4]; exact k3.mpr c3), f2, wd_c_s, f3, wd_d_s, f4, wd_d_s, f5, wd_d_s, f6, wd_d_s, f7, wd_d_s, f8, wd_d_s, f9, wd_d_s, fa, wd_d_s, fb, wd_d_s]
      have OB : of_f (mp_W f m t k u c l H) S Sb := mp_of_f2 nx_W_W (mp_of_f2 (mw_p_le (by show t ≤ t + 8; omega)) (mp_of_f2 (mw_p_le (by show t ≤ t + 7; omega)) (mp_of_f2 (mw_p_le (by show t ≤ t + 6; omega)) (mp_of_f2 (mw_p_le (by show t ≤ t + 5; omega)) (mp_of_f2 (mw_p_le (by show t ≤ t + 4; omega)) (mp_of_f2 (mw_p_le (by show t ≤ t + 3; omega)) (mp_of_f2 (mw_p_le (by show t ≤ t + 2; omega)) (mp_of_f2 (mw_p_le (by show t ≤ t + 1; omega)) (mp_of_f2 (mw_nm (by omega) (fun a b z => by unfold mw_n at z; omega)) O1 o2) o3) o4) o5) o6) o7) o8) o9) oa) ob
      have G1 := mp_g1 hloop hcode
      unfold ps_let
      cases q1 : ps_take (tk_K T n) 3 i with
      | error e =>
        rw [q1] at rb
        exact ⟨1, Sb, G1, OB, rb, by omega⟩
      | ok i1 =>
        rw [q1] at rb
        obtain ⟨-, u2, rfl, -⟩ := ps_take_ok q1
        have mb := mh_nx ob ma rb
        have xb : mh_s t [(5, 0), (18, Int32.ofNat c), (16, Int32.ofNat c), (4, 0), (1, 6), (15, Int32.ofNat c), (4, 0), (1, 13), (13, Int32.ofNat c)] Sb := mh_s_o (S := Sa) (fun b _ => ⟨ob.1 152 b (by unfold nx_W; omega), ob.1 153 b (by unfold nx_W; omega)⟩) xa
        obtain ⟨g, S', G2, O2, R2⟩ := mf_let (sc := sc) h8 ih hgd mb xb (by omega) (by omega) b3 b4 b5 (by omega) u2 (by rw [ob.1 143 c (by unfold nx_W; omega), oa.1 143 c (by unfold mw_p; omega), o9.1 143 c (by unfold mw_p; omega), o8.1 143 c (by unfold mw_p; omega), o7.1 143 c (by unfold mw_p; omega), o6.1 143 c (by unfold mw_p; omega), o5.1 143 c (by unfold mw_p; omega), o4.1 143 c (by unfold mw_p; omega), o3.1 143 c (by unfold mw_p; omega)]; exact a2)
        refine ⟨1 + g, S', mp_got G1 G2, of_trans OB O2, ?_⟩
        show (match (ps_b (ps_new (tk_K T n) false (decide (16 ≤ m)) (i + 1)) fun i2 => ps_b (ps_take (tk_K T n) 14 i2) fun i3 => ps_b (ps_ex (tk_K T n) (tk_V T n) r sc i3 (m + 1)) fun q => ps_b (ps_take (tk_K T n) 13 q.2.2.2.1) fun i4 => ps_b (ps_ex (tk_K T n) (tk_V T n) r ((tk_V T n (i + 1), m) :: sc) i4 q.2.2.2.2) fun r => .ok (tr_2 3 (Int32.ofNat m) (i + 1) q.1 r.1, q.2.1 ++ r.2.1, 1 + q.2.2.1 + r.2.2.1, r.2.2.2.1, r.2.2.2.2) : Except ps_E ps_O) with
          | .error e => mt_e T n e S' ∧ 1 + g + 1 ≤ 12 * (1501 - i)
          | .ok q => 1 + g + 1 ≤ 12 * (q.2.2.2.1 - i) ∧ ∃ l', l ≤ l' ∧ l' + i ≤ l + q.2.2.2.1 ∧ mh_g T n f q.2.2.2.2 t (k + 1) u (c + q.2.2.1) l' w q.2.2.2.1 S' ∧ ∃ y, S'.1 155 k = Int32.ofNat y ∧ mr_t T n f S' c (c + q.2.2.1) l l' m q.2.2.2.2 (4 * (r + 1)) y q.1)
        generalize (ps_b (ps_new (tk_K T n) false (decide (16 ≤ m)) (i + 1)) fun i2 => ps_b (ps_take (tk_K T n) 14 i2) fun i3 => ps_b (ps_ex (tk_K T n) (tk_V T n) r sc i3 (m + 1)) fun q => ps_b (ps_take (tk_K T n) 13 q.2.2.2.1) fun i4 => ps_b (ps_ex (tk_K T n) (tk_V T n) r ((tk_V T n (i + 1), m) :: sc) i4 q.2.2.2.2) fun r => .ok (tr_2 3 (Int32.ofNat m) (i + 1) q.1 r.1, q.2.1 ++ r.2.1, 1 + q.2.2.1 + r.2.2.1, r.2.2.2.1, r.2.2.2.2) : Except ps_E ps_O) = rr at R2 ⊢
        cases rr with
        | error e => exact ⟨R2.1, by have := R2.2; omega⟩
        | ok v =>
          obtain ⟨z1, l', z2, z3, z4, y, z5, z6⟩ := R2
          exact ⟨by omega, l', z2, z3, z4, y, z5, mr_t_le z6 (by omega)⟩
    · rw [if_neg c3]
      by_cases c4 : tk_K T n i = 4
      · rw [if_pos c4]
        have hb : tk_K T n i = 3 ∨ tk_K T n i = 4 ∨ tk_K T n i = 7 ∨ tk_K T n i = 1 ∨ tk_K T n i = 2 ∨ tk_K T n i = 15 := Or.inr (Or.inl c4)
        obtain ⟨S2, f2, m2, a2, bb2, o2⟩ := mh_node (x := 2) (y := S1.1 135 5) m1 (by omega)
        have x2 := mh_s_o (S := S1) (S' := S2) (fun b _ => ⟨o2.1 152 b (by unfold mw_n; omega), o2.1 153 b (by unfold mw_n; omega)⟩) x1
        obtain ⟨S3, f3, m3, x3, o3⟩ := mh_push (x := 18) (y := Int32.ofNat c) m2 (by show t + 1 < 4000; omega) x2
        obtain ⟨S4, f4, m4, x4, o4⟩ := mh_push (x := 17) (y := Int32.ofNat c) m3 (by show t + 2 < 4000; omega) x3
        obtain ⟨S5, f5, m5, x5, o5⟩ := mh_push (x := 4) (y := 0) m4 (by show t + 3 < 4000; omega) x4
        obtain ⟨S6, f6, m6, x6, o6⟩ := mh_push (x := 1) (y := 4) m5 (by show t + 4 < 4000; omega) x5
        obtain ⟨S7, f7, m7, x7, o7⟩ := mh_push (x := 16) (y := Int32.ofNat c) m6 (by show t + 5 < 4000; omega) x6
        obtain ⟨S8, f8, m8, x8, o8⟩ := mh_push (x := 4) (y := 0) m7 (by show t + 6 < 4000; omega) x7
        obtain ⟨S9, f9, m9, x9, o9⟩ := mh_push (x := 1) (y := 3) m8 (by show t + 7 < 4000; omega) x8
        obtain ⟨Sa, fa, ma, xa, oa⟩ := mh_push (x := 15) (y := Int32.ofNat c) m9 (by show t + 8 < 4000; omega) x9
        obtain ⟨Sz, fz, mz, xz, oz⟩ := mh_push (x := 4) (y := 0) ma (by show t + 9 < 4000; omega) xa
        obtain ⟨Sb, fb, ob, rb⟩ := mt_pass h8 mz.1 (by rw [c4]; decide)
        rw [c4] at rb
        have hcode : fn_Mo_onE S0 = some Sb := by
          unfold fn_Mo_onE fn_Mo_onE_229
          rw [me_begins hp.1, wd_c_s, if_pos hb, if_neg (by decide), e38, if_neg h24]
          simp only [wd_b]
          rw [im_s, f1, wd_d_s, if_neg (by rw [t4]; exact fun z => c3 (k3.mp z)), if_pos (by rw [t4]; exact k4.mpr c4), f2, wd_c_s, f3, wd_d_s, f4, wd_d_s, f5, wd_d_s, f6, wd_d_s, f7, wd_d_s, f8, wd_d_s, f9, wd_d_s, fa, wd_d_s, fz, wd_d_s, fb, wd_d_s]
        have OB : of_f (mp_W f m t k u c l H) S Sb := mp_of_f2 nx_W_W (mp_of_f2 (mw_p_le (by show t ≤ t + 9; omega)) (mp_of_f2 (mw_p_le (by show t ≤ t + 8; omega)) (mp_of_f2 (mw_p_le (by show t ≤ t + 7; omega)) (mp_of_f2 (mw_p_le (by show t ≤ t + 6; omega)) (mp_of_f2 (mw_p_le (by show t ≤ t + 5; omega)) (mp_of_f2 (mw_p_le (by show t ≤ t + 4; omega)) (mp_of_f2 (mw_p_le (by show t ≤ t + 3; omega)) (mp_of_f2 (mw_p_le (by show t ≤ t + 2; omega)) (mp_of_f2 (mw_p_le (by show t ≤ t + 1; omega)) (mp_of_f2 (mw_nm (by omega) (fun a b z => by unfold mw_n at z; omega)) O1 o2) o3) o4) o5) o6) o7) o8) o9) oa) oz) ob
        have G1 := mp_g1 hloop hcode
        unfold ps_if
        cases q1 : ps_take (tk_K T n) 4 i with
        | error e =>
          rw [q1] at rb
          exact ⟨1, Sb, G1, OB, rb, by omega⟩
        | ok i1 =>
          rw [q1] at rb
          obtain ⟨-, u2, rfl, -⟩ := ps_take_ok q1
          have mb := mh_nx ob mz rb
          have xb : mh_s t [(5, 0), (18, Int32.ofNat c), (17, Int32.ofNat c), (4, 0), (1, 4), (16, Int32.ofNat c), (4, 0), (1, 3), (15, Int32.ofNat c), (4, 0)] Sb := mh_s_o (S := Sz) (fun b _ => ⟨ob.1 152 b (by unfold nx_W; omega), ob.1 153 b (by unfold nx_W; omega)⟩) xz
          obtain ⟨g, S', G2, O2, R2⟩ := mi_if (sc := sc) h8 ih hgd mb xb (by omega) (by omega) b3 b4 b5 (by omega) u2 (by rw [ob.1 143 c (by unfold nx_W; omega), oz.1 143 c (by unfold mw_p; omega), oa.1 143 c (by unfold mw_p; omega), o9.1 143 c (by unfold mw_p; omega), o8.1 143 c (by unfold mw_p; omega), o7.1 143 c (by unfold mw_p; omega), o6.1 143 c (by unfold mw_p; omega), o5.1 143 c (by unfold mw_p; omega), o4.1 143 c (by unfold mw_p; omega), o3.1 143 c (by unfold mw_p; omega)]; exact a2)
          refine ⟨1 + g, S', mp_got G1 G2, of_trans OB O2, ?_⟩
          show (match (ps_b (ps_ex (tk_K T n) (tk_V T n) r sc (i + 1) m) fun q => ps_b (ps_take (tk_K T n) 11 q.2.2.2.1) fun i2 => ps_b (ps_ex (tk_K T n) (tk_V T n) r sc i2 q.2.2.2.2) fun r' => ps_b (ps_take (tk_K T n) 12 r'.2.2.2.1) fun i3 => ps_b (ps_ex (tk_K T n) (tk_V T n) r sc i3 r'.2.2.2.2) fun s => .ok (tr_3 4 0 0 q.1 r'.1 s.1, q.2.1 ++ (r'.2.1 ++ s.2.1), 1 + q.2.2.1 + r'.2.2.1 + s.2.2.1, s.2.2.2.1, s.2.2.2.2) : Except ps_E ps_O) with
            | .error e => mt_e T n e S' ∧ 1 + g + 1 ≤ 12 * (1501 - i)
            | .ok q => 1 + g + 1 ≤ 12 * (q.2.2.2.1 - i) ∧ ∃ l', l ≤ l' ∧ l' + i ≤ l + q.2.2.2.1 ∧ mh_g T n f q.2.2.2.2 t (k + 1) u (c + q.2.2.1) l' w q.2.2.2.1 S' ∧ ∃ y, S'.1 155 k = Int32.ofNat y ∧ mr_t T n f S' c (c + q.2.2.1) l l' m q.2.2.2.2 (4 * (r + 1)) y q.1)
          generalize (ps_b (ps_ex (tk_K T n) (tk_V T n) r sc (i + 1) m) fun q => ps_b (ps_take (tk_K T n) 11 q.2.2.2.1) fun i2 => ps_b (ps_ex (tk_K T n) (tk_V T n) r sc i2 q.2.2.2.2) fun r' => ps_b (ps_take (tk_K T n) 12 r'.2.2.2.1) fun i3 => ps_b (ps_ex (tk_K T n) (tk_V T n) r sc i3 r'.2.2.2.2) fun s => .ok (tr_3 4 0 0 q.1 r'.1 s.1, q.2.1 ++ (r'.2.1 ++ s.2.1), 1 + q.2.2.1 + r'.2.2.1 + s.2.2.1, s.2.2.2.1, s.2.2.2.2) : Except ps_E ps_O) = rr at R2 ⊢
          cases rr with
          | error e => exact ⟨R2.1, by have := R2.2; omega⟩
          | ok v =>
            obtain ⟨z1, l', z2, z3, z4, y, z5, z6⟩ := R2
            exact ⟨by omega, l', z2, z3, z4, y, z5, mr_t_le z6 (by omega)⟩
      · rw [if_neg c4]
        by_cases hb : tk_K T n i = 3 ∨ tk_K T n i = 4 ∨ tk_K T n i = 7 ∨ tk_K T n i = 1 ∨ tk_K T n i = 2 ∨ tk_K T n i = 15
        · obtain ⟨S2, f2, m2, x2, o2⟩ := mh_push (x := 11) (y := 0) m1 (by show t + 1 < 4000; omega) x1
          obtain ⟨S3, f3, m3, x3, o3⟩ := mh_push (x := 6) (y := 0) m2 (by show t + 2 < 4000; omega) x2
          have hcode : fn_Mo_onE S0 = some S3 := by
            unfold fn_Mo_onE fn_Mo_onE_229
            rw [me_begins hp.1, wd_c_s, if_pos hb, if_neg (by decide), e38, if_neg h24]
            simp only [wd_b]
            rw [im_s, f1, wd_d_s, if_neg (by rw [t4]; exact fun z => c3 (k3.mp z)), if_neg (by rw [t4]; exact fun z => c4 (k4.mp z)), f2, wd_d_s, f3, wd_d_s]
          have O3 : of_f (mp_W f m t k u c l H) S S3 := mp_of_f2 (mw_p_le (by show t ≤ t + 2; omega)) (mp_of_f2 (mw_p_le (by show t ≤ t + 1; omega)) O1 o2) o3
          have G1 := mp_g1 hloop hcode
          have v0 : S3.1 152 t = 5 := (x3 0 (show 0 < 3 by decide)).1
          have hs3 : mh_s (t + 1) [(11, 0), (6, 0)] S3 := fun j hj => by
            cases j with
            | zero => exact x3 1 (show 1 < 3 by decide)
            | succ j =>
              cases j with
              | zero => exact x3 2 (show 2 < 3 by decide)
              | succ j => exact absurd hj (by show ¬j + 1 + 1 < 2; omega)
          obtain ⟨g, S4, G2, O4, R4⟩ := mp_two (t := t + 1) h8 ma_Y11 (by decide) h50 (fun i m q hq => ps_two_good (fun i m q hq => ps_two_good (fun i m q hq => ps_atom_good hgd hq) hq) hq) (by decide) m3 hs3 (by omega) (by omega) b3 b4 b5 (by omega)
          have O4' : of_f (mp_W f m t k u c l H) S S4 := mp_of_f2 (mp_le (Nat.le_refl _) (Nat.le_succ _) (Nat.le_refl _) (Nat.le_refl _) (Nat.le_refl _) (Nat.le_refl _)) O3 O4
          show ∃ g S', mp_go g S S' ∧ mp_R T n f H m t k u c l w (4 * (r + 1)) 1 i S (ps_two (tk_K T n) (fun k => k == 9 || k == 10) (ps_sum (tk_K T n) (tk_V T n) (ps_ex (tk_K T n) (tk_V T n) r) sc) i m) g S'
          have R4 : (match ps_two (tk_K T n) (fun k => k == 9 || k == 10) (ps_sum (tk_K T n) (tk_V T n) (ps_ex (tk_K T n) (tk_V T n) r) sc) i m with
            | .error e => mt_e T n e S4 ∧ g + (9 - 2 - 2 - 1) ≤ 12 * (1501 - i)
            | .ok q => g + (9 - 2 - 2 - 1) ≤ 12 * (q.2.2.2.1 - i) ∧ ∃ l', l ≤ l' ∧ l' + i ≤ l + q.2.2.2.1 ∧ mh_g T n f q.2.2.2.2 (t + 1) (k + 1) u (c + q.2.2.1) l' (w + 1) q.2.2.2.1 S4 ∧ ∃ y, S4.1 155 k = Int32.ofNat y ∧ mr_t T n f S4 c (c + q.2.2.1) l l' m q.2.2.2.2 (4 * r + 1 + 1 + 1 + 1) y q.1) := R4
          cases q1 : ps_two (tk_K T n) (fun k => k == 9 || k == 10) (ps_sum (tk_K T n) (tk_V T n) (ps_ex (tk_K T n) (tk_V T n) r) sc) i m with
          | error e =>
            rw [q1] at R4
            exact ⟨1 + g, S4, mp_got G1 G2, O4', R4.1, by have := R4.2; omega⟩
          | ok v =>
            rw [q1] at R4
            obtain ⟨z1, l', z2, z3, z4, y, z5, z6⟩ := R4
            obtain ⟨S5, G3, m5, o5⟩ := me_end z4 (by omega) (by rw [O4.1 152 t (mp_W_n (by omega))]; exact v0)
            refine ⟨1 + g + 1, S5, mp_got (mp_got G1 G2) G3, mp_of_f2 (mw_nm (by omega) (fun a b z => by omega)) O4' o5, by omega, l', z2, z3, m5, y, ?_, ?_⟩
            · rw [o5.1 155 k (by omega)]; exact z5
            · exact mr_t_le (mr_t_m (Nat.le_refl _) (Nat.le_refl _) (Nat.le_refl _) (Nat.le_refl _) (Nat.le_refl _) (Nat.le_refl _) (mr_g_o o5 (fun a x y1 y2 y3 y4 => by omega) (fun x y1 y2 => by omega) (fun x y1 y2 => by omega)) _ _ _ z6) (by omega)
        · obtain ⟨S2, e2, o2, r2⟩ := mt_stop (x := 2) (by decide) hp.1
          have hcode : fn_Mo_onE S0 = some S2 := by
            unfold fn_Mo_onE
            rw [me_begins hp.1, wd_c_s, if_neg hb, if_pos rfl, e2, wd_d_s]
          have hr : ps_cmp (tk_K T n) (tk_V T n) (ps_ex (tk_K T n) (tk_V T n) r) sc i m = .error (2, i) := by
            unfold ps_cmp ps_sum ps_product ps_two ps_atom
            rw [if_neg (fun z => hb (Or.inr (Or.inr (Or.inl z)))), if_neg (fun z => hb (Or.inr (Or.inr (Or.inr (Or.inl z))))), if_neg (fun z => hb (Or.inr (Or.inr (Or.inr (Or.inr (Or.inl z)))))), if_neg (fun z => hb (Or.inr (Or.inr (Or.inr (Or.inr (Or.inr z))))))]
            rfl
          rw [hr]
          exact ⟨1, S2, mp_g1 hloop hcode, of_trans OP (of_mono nx_W_W o2), r2, by omega⟩
end Mx
