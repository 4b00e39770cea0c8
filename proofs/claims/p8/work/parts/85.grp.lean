/-! part 85 -/
section
/-! The reference: any atom. -/
section Md
variable {T : Nat → Int32} {H n f r d m t k u c l w i : Nat} {S S' S1 : wd_S} {e : ps_E} {self : ps_P} {sc : List (Int64 × Nat)}
theorem md_atom (h8 : n ≤ 8000) (hE : mp_C T n f H r 0 0 d 1 4 (self sc)) (hgd : ∀ sc i m q, self sc i m = .ok q → ps_good (tk_K T n) d i m q) : mp_C T n f H r 4 0 (d + 1) 9 10 (ps_atom (tk_K T n) (tk_V T n) self sc) := by
  intro i m t k u c l w S hm hs b1 b2 b3 b4 b5 b6
  have hp := mh_pop hm
  have hi := hm.1.2.2.2.2.1
  have oP : of_f mw_35 S (wd_i S 135 35 (Int32.ofNat t)) := of_i ⟨rfl, rfl⟩ of_refl
  have OP : of_f (mp_W f m t k u c l H) S (wd_i S 135 35 (Int32.ofNat t)) := of_mono mw_35_W oP
  have hloop : ∀ F, fn_Mo_parse_21 (F + 1) S = wd_d (fn_Mo_onAtom (wd_i S 135 35 (Int32.ofNat t))) (fn_Mo_parse_21 F) := fun F => by
    rw [mp_pop hm (by omega) F, hs, if_neg (by decide), if_neg (by decide), if_neg (by decide)]
    congr 1
    unfold fn_Mo_onSum fn_Mo_onSum_248
    rw [if_neg (by decide), if_neg (by decide), if_neg (by decide), if_pos rfl]
    cases fn_Mo_onAtom (wd_i S 135 35 (Int32.ofNat t)) <;> rfl
  generalize wd_i S 135 35 (Int32.ofNat t) = S0 at hp OP hloop
  have k1 : S0.1 135 4 = 11 ↔ tk_K T n i = 1 := ma_tok (kk := 1) hp.1 (by decide)
  have k7 : S0.1 135 4 = 20 ↔ tk_K T n i = 7 := ma_tok (kk := 7) hp.1 (by decide)
  have k2 : S0.1 135 4 = 10 ↔ tk_K T n i = 2 := ma_tok (kk := 2) hp.1 (by decide)
  have k15 : S0.1 135 4 = 14 ↔ tk_K T n i = 15 := ma_tok (kk := 15) hp.1 (by decide)
  have e5 : S0.1 135 5 = Int32.ofNat (tk_p T n i) := hp.1.2.2.2.2.2.2.2.1
  unfold ps_atom
  by_cases c1 : tk_K T n i = 1
  · rw [if_neg (show ¬tk_K T n i = 7 by rw [c1]; decide), if_pos c1]
    obtain ⟨S2, f2, o2, r2⟩ := ma_num (H := H) (pl := S0.1 135 5) (s := 1) h8 (Or.inl rfl) hp (by omega) (by omega) (by omega)
    have hcode : fn_Mo_onAtom S0 = some S2 := by
      unfold fn_Mo_onAtom fn_Mo_onAtom_23 fn_Mo_onAtom_37
      rw [if_pos (k1.mpr c1), if_neg (fun z => by have := k7.mp z; rw [c1] at this; exact absurd this (by decide)), if_pos rfl]
      exact f2
    refine ⟨1, S2, mp_g1 hloop hcode, of_trans OP o2, ?_⟩
    cases q : ps_num (tk_K T n) (tk_V T n) 1 i m with
    | error e => rw [q] at r2; exact ⟨r2, by omega⟩
    | ok v =>
      rw [q] at r2
      obtain ⟨p1, p2, -⟩ := ps_num_good q
      obtain ⟨M2, y, Y2, D2⟩ := r2
      exact ⟨by omega, l, Nat.le_refl _, by omega, M2, y, Y2, mr_t_le D2 (by omega)⟩
  · by_cases c7 : tk_K T n i = 7
    · rw [if_pos c7]
      obtain ⟨S2, f2, o2, r2⟩ := mt_pass h8 hp.1 (by rw [c7]; decide)
      rw [c7] at r2
      have hcode : fn_Mo_onAtom S0 = fn_Mo_onAtom_46 (S0.1 135 5) 1 S2 := by
        unfold fn_Mo_onAtom fn_Mo_onAtom_23 fn_Mo_onAtom_37
        rw [if_neg (fun z => c1 (k1.mp z)), if_pos (k7.mpr c7), if_pos (k7.mpr c7), if_neg (show ¬(1 : Int32) = 0 by decide), f2, wd_d_s]
      cases q1 : ps_take (tk_K T n) 7 i with
      | error e =>
        rw [q1] at r2
        have h9 : ¬S2.1 135 9 = 0 := by rw [r2.2.1]; exact r2.1
        refine ⟨1, S2, mp_g1 hloop (hcode.trans ?_), of_trans OP (of_mono nx_W_W o2), r2, by omega⟩
        unfold fn_Mo_onAtom_46 fn_Mo_onAtom_71 fn_Mo_onAtom_116 fn_Mo_onAtom_283
        rw [if_neg h9, if_neg h9]
      | ok i1 =>
        rw [q1] at r2
        obtain ⟨-, t2, rfl, -⟩ := ps_take_ok q1
        have m2 := mh_nx o2 hp r2
        obtain ⟨S3, f3, o3, r3⟩ := ma_num (H := H) (pl := S0.1 135 5) (s := -1) h8 (Or.inr rfl) m2 (by omega) (by omega) (by omega)
        refine ⟨1, S3, mp_g1 hloop (hcode.trans f3), of_trans OP (of_trans (of_mono nx_W_W o2) o3), ?_⟩
        show (match ps_num (tk_K T n) (tk_V T n) (-1) (i + 1) m with
          | .error e => mt_e T n e S3 ∧ 1 + 9 ≤ 12 * (1501 - i)
          | .ok q => 1 + 9 ≤ 12 * (q.2.2.2.1 - i) ∧ ∃ l', l ≤ l' ∧ l' + i ≤ l + q.2.2.2.1 ∧ mh_g T n f q.2.2.2.2 t (k + 1) u (c + q.2.2.1) l' w q.2.2.2.1 S3 ∧ ∃ y, S3.1 155 k = Int32.ofNat y ∧ mr_t T n f S3 c (c + q.2.2.1) l l' m q.2.2.2.2 (d + 1) y q.1)
        cases q : ps_num (tk_K T n) (tk_V T n) (-1) (i + 1) m with
        | error e => rw [q] at r3; exact ⟨r3, by omega⟩
        | ok v =>
          rw [q] at r3
          obtain ⟨p1, p2, -⟩ := ps_num_good q
          obtain ⟨M2, y, Y2, D2⟩ := r3
          exact ⟨by omega, l, Nat.le_refl _, by omega, M2, y, Y2, mr_t_le D2 (by omega)⟩
    · rw [if_neg c7, if_neg c1]
      by_cases c2 : tk_K T n i = 2
      · rw [if_pos c2]
        obtain ⟨S2, f2, m2, a2, bb2, o2⟩ := mh_node (x := 7) (y := S0.1 135 5) hp (by omega)
        generalize hS3 : wd_l S2 148 c (S2.2.1 135 7) = S3
        have o3 : of_f (fun a b => a = 148 ∧ b = c) S2 S3 := by rw [← hS3]; exact of_l ⟨rfl, rfl⟩ of_refl
        have m3 : mh_g T n f m t k u (c + 1) l w i S3 := mh_w o3 (fun a b z => by omega) m2
        have e148 : S3.2.1 148 c = tk_V T n i := by
          rw [← hS3, fr_l1, if_pos ⟨rfl, rfl⟩]
          exact m2.1.2.2.2.2.2.2.2.2.2.2.1 c2
        obtain ⟨S4, f4, o4, r4⟩ := mt_pass h8 m3.1 (by rw [c2]; decide)
        rw [c2] at r4
        have O4 : of_f (mp_W f m t k u c l H) S S4 := mp_of_f2 nx_W_W (mp_of_f2 (mb_in (by omega) (fun a b z => by omega)) (mp_of_f2 (mb_in (by omega) (fun a b z => by unfold mw_n at z; omega)) OP o2) o3) o4
        have n143 : S4.1 143 c = 7 := by rw [o4.1 143 c (by unfold nx_W; omega), o3.1 143 c (by omega)]; exact a2
        have n147 : S4.1 147 c = Int32.ofNat (tk_p T n i) := by rw [o4.1 147 c (by unfold nx_W; omega), o3.1 147 c (by omega), bb2]; exact e5
        have n148 : S4.2.1 148 c = tk_V T n i := by rw [o4.2.1 148 c (by unfold nx_W; omega)]; exact e148
        have hin := ms_in (show c < 15010 by omega) (by decide)
        have e37 : S4.1 135 37 = Int32.ofNat k := by rw [o4.1 135 37 (by unfold nx_W; omega)]; exact m3.2.2.2.2.2.2.1
        have hpre : ∀ X, (if S4.1 135 9 = 0 then (if S4.1 135 4 = 14 then (if Int32.ofNat c < 0 ∨ 15010 ≤ (Int32.ofNat c).toNatClampNeg then none else (wd_b (wd_i S4 143 (Int32.ofNat c).toNatClampNeg (8 : Int32)) fun S54 => (if Int32.ofNat c < 0 ∨ 15010 ≤ (Int32.ofNat c).toNatClampNeg then none else (wd_b (wd_i S54 145 (Int32.ofNat c).toNatClampNeg (S54.1 135 30)) fun S56 => (wd_d (fn_Mo_pass S56) fun S57 => (if (S57.1 135 9) = 0 then (if (S57.1 135 4) = (15 : Int32) then fn_Mo_onAtom_220 (Int32.ofNat c) S57 else (wd_d (fn_Mo_push (20 : Int32) (Int32.ofNat c) S57) fun S68 => (wd_d (fn_Mo_push (4 : Int32) (0 : Int32) S68) fun S71 => fn_Mo_onAtom_242 S71))) else fn_Mo_onAtom_220 (Int32.ofNat c) S57)))))) else fn_Mo_onAtom_237 (Int32.ofNat c) S4) else fn_Mo_onAtom_237 (Int32.ofNat c) S4) = X → fn_Mo_onAtom S0 = X := by
          intro X hX
          unfold fn_Mo_onAtom
          rw [if_neg (fun z => c1 (k1.mp z)), if_neg (fun z => c7 (k7.mp z)), if_pos (k2.mpr c2), f2, wd_c_s, if_neg hin]
          simp only [wd_b]
          rw [im_t (by omega), hS3, f4, wd_d_s]
          simp only [wd_b] at hX
          rw [im_t (by omega)] at hX
          exact hX
        have h237 : ∃ S5, fn_Mo_onAtom_237 (Int32.ofNat c) S4 = some S5 ∧ of_f (mw_k k) S4 S5 ∧ S5.1 155 k = Int32.ofNat c ∧ S5.1 135 37 = Int32.ofNat (k + 1) := by
          unfold fn_Mo_onAtom_237 fn_Mo_onAtom_242 fn_Mo_onAtom_283
          rw [ms_keep e37 (by omega), wd_d_s]
          refine ⟨_, rfl, of_i (Or.inr ⟨rfl, rfl⟩) (of_i (Or.inl ⟨rfl, rfl⟩) of_refl), ?_, ?_⟩
          · unfold ms_k; rw [fr_ne (by omega), fr_eq]
          · unfold ms_k; rw [fr_eq]
        obtain ⟨S5, f5, o5, a5, b5'⟩ := h237
        cases q1 : ps_take (tk_K T n) 2 i with
        | error e =>
          rw [q1] at r4
          have h9 : ¬S4.1 135 9 = 0 := by rw [r4.2.1]; exact r4.1
          refine ⟨1, S5, mp_g1 hloop (hpre _ (by rw [if_neg h9]; exact f5)), mp_of_f2 mw_k_W O4 o5, mt_e_o r4 (o5.1 135 9 (by unfold mw_k; omega)) (o5.1 135 10 (by unfold mw_k; omega)), by omega⟩
        | ok i1 =>
          rw [q1] at r4
          obtain ⟨-, t2, rfl, t4⟩ := ps_take_ok q1
          have m4 := mh_nx o4 m3 r4
          have h9 : S4.1 135 9 = 0 := r4.2.2.1
          have k15' : S4.1 135 4 = 14 ↔ tk_K T n (i + 1) = 15 := ma_tok (kk := 15) m4.1 (by decide)
          show ∃ g S', mp_go g S S' ∧ mp_R T n f H m t k u c l w (d + 1) 9 i S (if tk_K T n (i + 1) = 15 then _ else _) g S'
          by_cases c15 : tk_K T n (i + 1) = 15
          · rw [if_pos c15]
            unfold ps_call
            generalize hS6 : wd_i (wd_i S4 143 c 8) 145 c (Int32.ofNat u) = S6
            have e30 : (wd_i S4 143 c 8).1 135 30 = Int32.ofNat u := by rw [fr_ne (by omega)]; exact m4.2.2.2.2.2.2.2.1
            have o6 : of_f (fun a b => (a = 143 ∨ a = 145) ∧ b = c) S4 S6 := by rw [← hS6]; exact of_i (by omega) (of_i (by omega) of_refl)
            have m6 : mh_g T n f m t k u (c + 1) l w (i + 1) S6 := mh_w o6 (fun a b z => by omega) m4
            obtain ⟨S7, f7, o7, r7⟩ := mt_pass h8 m6.1 (by rw [c15]; decide)
            rw [c15] at r7
            have O7 : of_f (mp_W f m t k u c l H) S S7 := mp_of_f2 nx_W_W (mp_of_f2 (mb_in (by omega) (fun a b z => by omega)) O4 o6) o7
            have hpre2 : ∀ X, (if (S7.1 135 9) = 0 then (if (S7.1 135 4) = (15 : Int32) then fn_Mo_onAtom_220 (Int32.ofNat c) S7 else (wd_d (fn_Mo_push (20 : Int32) (Int32.ofNat c) S7) fun S68 => (wd_d (fn_Mo_push (4 : Int32) (0 : Int32) S68) fun S71 => fn_Mo_onAtom_242 S71))) else fn_Mo_onAtom_220 (Int32.ofNat c) S7) = X → fn_Mo_onAtom S0 = X := by
              intro X hX
              refine hpre X ?_
              rw [if_pos h9, if_pos (k15'.mpr c15), if_neg hin]
              simp only [wd_b]
              rw [if_neg hin, im_t (by omega), e30, hS6, f7, wd_d_s]
              exact hX
            cases q2 : ps_take (tk_K T n) 15 (i + 1) with
            | error e =>
              rw [q2] at r7
              have h9' : ¬S7.1 135 9 = 0 := by rw [r7.2.1]; exact r7.1
              have e35 : S7.1 135 35 = Int32.ofNat t := by rw [o7.1 135 35 (by unfold nx_W; omega)]; exact m6.2.2.2.2.2.1
              have h220 : ∃ S8, fn_Mo_onAtom_220 (Int32.ofNat c) S7 = some S8 ∧ of_f (mp_W f m t k u c l H) S7 S8 ∧ S8.1 135 9 = S7.1 135 9 ∧ S8.1 135 10 = S7.1 135 10 := by
                unfold fn_Mo_onAtom_220 fn_Mo_onAtom_242 fn_Mo_onAtom_283
                rw [ms_push e35 (by omega), wd_d_s, ms_push (t := t + 1) (by unfold ms_p; rw [fr_eq]) (by omega), wd_d_s]
                refine ⟨_, rfl, ?_, ?_, ?_⟩
                · unfold ms_p
                  exact of_i (mw_35_W _ _ ⟨rfl, rfl⟩) (of_i (Or.inr (Or.inr (Or.inr (Or.inr (Or.inr (Or.inr (Or.inr (Or.inl ⟨rfl, by omega⟩)))))))) (of_i (Or.inr (Or.inr (Or.inr (Or.inr (Or.inr (Or.inr (Or.inl ⟨rfl, by omega⟩))))))) (of_i (mw_35_W _ _ ⟨rfl, rfl⟩) (of_i (Or.inr (Or.inr (Or.inr (Or.inr (Or.inr (Or.inr (Or.inr (Or.inl ⟨rfl, by omega⟩)))))))) (of_i (Or.inr (Or.inr (Or.inr (Or.inr (Or.inr (Or.inr (Or.inl ⟨rfl, by omega⟩))))))) of_refl)))))
                · unfold ms_p
                  rw [fr_ne (by omega), fr_ne (by omega), fr_ne (by omega), fr_ne (by omega), fr_ne (by omega), fr_ne (by omega)]
                · unfold ms_p
                  rw [fr_ne (by omega), fr_ne (by omega), fr_ne (by omega), fr_ne (by omega), fr_ne (by omega), fr_ne (by omega)]
              obtain ⟨S8, f8, o8, e9, e10⟩ := h220
              exact ⟨1, S8, mp_g1 hloop (hpre2 _ (by rw [if_neg h9']; exact f8)), of_trans O7 o8, mt_e_o r7 e9 e10, by omega⟩
            | ok i2 =>
              rw [q2] at r7
              obtain ⟨-, t6, rfl, -⟩ := ps_take_ok q2
              have m7 := mh_nx o7 m6 r7
              have h9' : S7.1 135 9 = 0 := r7.2.2.1
              obtain ⟨g, S8, S9, f8, G8, O9, R9⟩ := mb_call (o := i) h8 hE hgd (by omega) (by omega) b6 m7 rfl (by omega) (by omega) (by omega) (by rw [o7.1 143 c (by unfold nx_W; omega), ← hS6, fr_ne (by omega), fr_eq]) (by rw [o7.1 147 c (by unfold nx_W; omega), o6.1 147 c (by omega)]; exact n147) (by rw [o7.2.1 148 c (by unfold nx_W; omega), o6.2.1 148 c (by omega)]; exact n148) (by rw [o7.1 145 c (by unfold nx_W; omega), ← hS6, fr_eq])
              refine ⟨1 + g, S9, mp_got (mp_g1 hloop (hpre2 _ (by rw [if_pos h9']; exact f8))) G8, of_trans O7 O9, ?_⟩
              show (match (if tk_K T n (i + 1 + 1) = 16 then ps_b (ps_take (tk_K T n) 16 (i + 1 + 1)) fun i2 => .ok (tr_mk 5 (Int32.ofNat i) i 0 (tr_ls []), [(i, 1)], 1, i2, m) else ps_b (self sc (i + 1 + 1) m) fun q => ps_b (ps_args (tk_K T n) self sc 1500 q.2.2.2.1 q.2.2.2.2) fun r => ps_b (ps_take (tk_K T n) 16 r.2.2.2.1) fun i2 => .ok (tr_mk 5 (Int32.ofNat i) i (r.1.length + 1) (tr_ls (q.1 :: r.1)), (i, r.1.length + 2) :: (q.2.1 ++ r.2.1), 1 + q.2.2.1 + r.2.2.1, i2, r.2.2.2.2) : Except ps_E ps_O) with
                | .error e => mt_e T n e S9 ∧ 1 + g + 9 ≤ 12 * (1501 - i)
                | .ok q => 1 + g + 9 ≤ 12 * (q.2.2.2.1 - i) ∧ ∃ l', l ≤ l' ∧ l' + i ≤ l + q.2.2.2.1 ∧ mh_g T n f q.2.2.2.2 t (k + 1) u (c + q.2.2.1) l' w q.2.2.2.1 S9 ∧ ∃ y, S9.1 155 k = Int32.ofNat y ∧ mr_t T n f S9 c (c + q.2.2.1) l l' m q.2.2.2.2 (d + 1) y q.1)
              generalize hrr : (if tk_K T n (i + 1 + 1) = 16 then ps_b (ps_take (tk_K T n) 16 (i + 1 + 1)) fun i2 => .ok (tr_mk 5 (Int32.ofNat i) i 0 (tr_ls []), [(i, 1)], 1, i2, m) else ps_b (self sc (i + 1 + 1) m) fun q => ps_b (ps_args (tk_K T n) self sc 1500 q.2.2.2.1 q.2.2.2.2) fun r => ps_b (ps_take (tk_K T n) 16 r.2.2.2.1) fun i2 => .ok (tr_mk 5 (Int32.ofNat i) i (r.1.length + 1) (tr_ls (q.1 :: r.1)), (i, r.1.length + 2) :: (q.2.1 ++ r.2.1), 1 + q.2.2.1 + r.2.2.1, i2, r.2.2.2.2) : Except ps_E ps_O) = rr at R9 ⊢
              cases rr with
              | error e => exact ⟨R9.1, by have := R9.2; omega⟩
              | ok v => exact ⟨by have := R9.1; omega, R9.2⟩
          · rw [if_neg c15]
            have m5 : mh_g T n f m t (k + 1) u (c + 1) l w (i + 1) S5 := by
              have hne : ∀ b, b ≠ 37 → S5.1 135 b = S4.1 135 b := fun b hb => o5.1 _ _ (by unfold mw_k; omega)
              refine mh_u m4 (funext (fun b => o5.1 _ _ (by unfold mw_k; omega))) (fun k hk => hne k (by omega)) (o5.2.1 _ _ (by unfold mw_k; omega)) (o5.1 _ _ (by unfold mw_k; omega)) ?_ b5' ?_ ?_ ?_ ?_
              · rw [hne 35 (by decide)]; exact m4.2.2.2.2.2.1
              · rw [hne 30 (by decide)]; exact m4.2.2.2.2.2.2.2.1
              · rw [hne 27 (by decide)]; exact m4.2.2.2.2.2.2.2.2.1
              · rw [hne 28 (by decide)]; exact m4.2.2.2.2.2.2.2.2.2.1
              · rw [hne 38 (by decide)]; exact m4.2.2.2.2.2.2.2.2.2.2
            refine ⟨1, S5, mp_g1 hloop (hpre _ (by rw [if_pos h9, if_neg (fun z => c15 (k15'.mp z))]; exact f5)), mp_of_f2 mw_k_W O4 o5, ?_⟩
            have x143 : S5.1 143 c = 7 := by rw [o5.1 143 c (by unfold mw_k; omega)]; exact n143
            have x147 : S5.1 147 c = Int32.ofNat (tk_p T n i) := by rw [o5.1 147 c (by unfold mw_k; omega)]; exact n147
            have x148 : S5.2.1 148 c = tk_V T n i := by rw [o5.2.1 148 c (by unfold mw_k; omega)]; exact n148
            unfold ps_name
            cases q2 : ps_look (tk_V T n i) sc with
            | some s => exact ⟨by show 1 + 9 ≤ 12 * (i + 1 - i); omega, l, Nat.le_refl _, by show l + i ≤ l + (i + 1); omega, m5, c, a5, Nat.le_refl _, by show c < c + 1; omega, Or.inr (Or.inl ⟨rfl, rfl, x143, x148, x147⟩)⟩
            | none => exact ⟨by show 1 + 9 ≤ 12 * (i + 1 - i); omega, l, Nat.le_refl _, by show l + i ≤ l + (i + 1); omega, m5, c, a5, Nat.le_refl _, by show c < c + 1; omega, Or.inr (Or.inl ⟨rfl, rfl, x143, x148, x147⟩)⟩
      · rw [if_neg c2]
        by_cases c15 : tk_K T n i = 15
        · rw [if_pos c15]
          obtain ⟨S4, f4, m4, x4, o4⟩ := mh_push (xs := []) (x := 1) (y := 15) hp (by show t + 0 < 4000; omega) (fun j hj => absurd hj (Nat.not_lt_zero _))
          obtain ⟨S5, f5, m5, x5, o5⟩ := mh_push (x := 4) (y := 0) m4 (by show t + 1 < 4000; omega) x4
          obtain ⟨S6, f6, o6, r6⟩ := mt_pass h8 m5.1 (by rw [c15]; decide)
          rw [c15] at r6
          have hcode : fn_Mo_onAtom S0 = some S6 := by
            unfold fn_Mo_onAtom fn_Mo_onAtom_283
            rw [if_neg (fun z => c1 (k1.mp z)), if_neg (fun z => c7 (k7.mp z)), if_neg (fun z => c2 (k2.mp z)), if_pos (k15.mpr c15), f4, wd_d_s, f5, wd_d_s, f6, wd_d_s]
          have G1 : mp_go 1 S S6 := mp_g1 hloop hcode
          have O6 : of_f (mp_W f m t k u c l H) S S6 := mp_of_f2 nx_W_W (mp_of_f2 (fun a b z => mp_le (Nat.le_refl _) (Nat.le_succ _) (Nat.le_refl _) (Nat.le_refl _) (Nat.le_refl _) (Nat.le_refl _) a b (mw_p_W a b z)) (mp_of_f2 mw_p_W OP o4) o5) o6
          cases q1 : ps_take (tk_K T n) 15 i with
          | error e =>
            rw [q1] at r6
            exact ⟨1, S6, G1, O6, r6, by omega⟩
          | ok i1 =>
            rw [q1] at r6
            obtain ⟨-, t2, rfl, -⟩ := ps_take_ok q1
            have m6 := mh_nx o6 m5 r6
            have hs6 : mh_s t ([] ++ [(1, 15)] ++ [(4, 0)]) S6 := mh_s_o (fun b _ => ⟨o6.1 152 b (by unfold nx_W; omega), o6.1 153 b (by unfold nx_W; omega)⟩) x5
            obtain ⟨v1, v2⟩ := hs6 0 (show 0 < 2 by decide)
            obtain ⟨v3, v4⟩ := hs6 1 (show 1 < 2 by decide)
            have v1 : S6.1 152 t = 1 := v1
            have v2 : S6.1 153 t = lx_cv 16 := v2
            obtain ⟨g2, S7, G2, O7, R7⟩ := hE (i + 1) m (t + 1) k u c l w S6 m6 v3 (by omega) (by omega) (by omega) (by omega) (by omega) b6
            have O7' : of_f (mp_W f m t k u c l H) S S7 := mp_of_f2 (mp_le (Nat.le_refl _) (Nat.le_succ _) (Nat.le_refl _) (Nat.le_refl _) (Nat.le_refl _) (Nat.le_refl _)) O6 O7
            show ∃ g S', mp_go g S S' ∧ mp_R T n f H m t k u c l w (d + 1) 9 i S (ps_b (self sc (i + 1) m) _) g S'
            cases q2 : self sc (i + 1) m with
            | error e =>
              rw [q2] at R7
              exact ⟨1 + g2, S7, mp_got G1 G2, O7', R7.1, by have := R7.2; omega⟩
            | ok v =>
              rw [q2] at R7
              obtain ⟨c2', l2, L1, L2, M7, y, Y7, D7⟩ := R7
              obtain ⟨p1, p2, p3, p4, p5, p6, p7, -⟩ := hgd _ _ _ v q2
              have w1 : S7.1 152 t = 1 := by rw [O7.1 152 t (mp_W_n (by omega))]; exact v1
              have w2 : S7.1 153 t = lx_cv 16 := by rw [O7.1 153 t (mp_W_n (by omega))]; exact v2
              obtain ⟨S8, G3, o8, R8⟩ := mp_want (kd := 16) h8 M7 (by omega) w1 w2 (by decide) (by decide)
              have O8 : of_f (mp_W f m t k u c l H) S S8 := mp_of_f2 (fun a b z => by
                rcases z with z | z
                · exact nx_W_W a b z
                · exact mw_35_W a b z) O7' o8
              refine ⟨1 + g2 + 1, S8, mp_got (mp_got G1 G2) G3, O8, ?_⟩
              show (match (ps_b (ps_take (tk_K T n) 16 v.2.2.2.1) fun i2 => .ok (v.1, v.2.1, v.2.2.1, i2, v.2.2.2.2) : Except ps_E ps_O) with
                | .error e => mt_e T n e S8 ∧ 1 + g2 + 1 + 9 ≤ 12 * (1501 - i)
                | .ok q => 1 + g2 + 1 + 9 ≤ 12 * (q.2.2.2.1 - i) ∧ ∃ l', l ≤ l' ∧ l' + i ≤ l + q.2.2.2.1 ∧ mh_g T n f q.2.2.2.2 t (k + 1) u (c + q.2.2.1) l' w q.2.2.2.1 S8 ∧ ∃ y, S8.1 155 k = Int32.ofNat y ∧ mr_t T n f S8 c (c + q.2.2.1) l l' m q.2.2.2.2 (d + 1) y q.1)
              cases q3 : ps_take (tk_K T n) 16 v.2.2.2.1 with
              | error e =>
                rw [q3] at R8
                exact ⟨R8, by omega⟩
              | ok i2 =>
                rw [q3] at R8
                obtain ⟨-, t6, rfl, -⟩ := ps_take_ok q3
                refine ⟨by show 1 + g2 + 1 + 9 ≤ 12 * (v.2.2.2.1 + 1 - i); omega, l2, L1, by show l2 + i ≤ l + (v.2.2.2.1 + 1); omega, R8, y, ?_, ?_⟩
                · rw [o8.1 155 k (by unfold nx_W mw_35; omega)]; exact Y7
                · exact mr_t_s _ _ _ (mr_t_m (Nat.le_refl _) (Nat.le_refl _) (Nat.le_refl _) (Nat.le_refl _) (Nat.le_refl _) (Nat.le_refl _) (mr_g_o o8 (fun a x y1 y2 y3 y4 => by unfold nx_W mw_35; omega) (fun x y1 y2 => by unfold nx_W mw_35; omega) (fun x y1 y2 => by unfold nx_W mw_35; omega)) _ _ _ D7)
        · rw [if_neg c15]
          obtain ⟨S2, e2, o2, r2⟩ := mt_stop (x := 2) (by decide) hp.1
          have hcode : fn_Mo_onAtom S0 = some S2 := by
            unfold fn_Mo_onAtom fn_Mo_onAtom_283
            rw [if_neg (fun z => c1 (k1.mp z)), if_neg (fun z => c7 (k7.mp z)), if_neg (fun z => c2 (k2.mp z)), if_neg (fun z => c15 (k15.mp z)), e2, wd_d_s]
          exact ⟨1, S2, mp_g1 hloop hcode, of_trans OP (of_mono nx_W_W o2), r2, by omega⟩
end Md
end
/-! part 86 -/
section
/-! The reference: names of lets, parts that are kept, the end of an E. -/
section Me
variable {T : Nat → Int32} {H n f r d m t k u c l w i : Nat} {S S' S1 : wd_S} {e : ps_E}
theorem me_begins (hm : mt_g T n i S) : fn_Mo_begins S = some (if tk_K T n i = 3 ∨ tk_K T n i = 4 ∨ tk_K T n i = 7 ∨ tk_K T n i = 1 ∨ tk_K T n i = 2 ∨ tk_K T n i = 15 then 1 else 0, S) := by
  have k3 : S.1 135 4 = 5 ↔ tk_K T n i = 3 := ma_tok (kk := 3) hm (by decide)
  have k4 : S.1 135 4 = 2 ↔ tk_K T n i = 4 := ma_tok (kk := 4) hm (by decide)
  have k1 : S.1 135 4 = 11 ↔ tk_K T n i = 1 := ma_tok (kk := 1) hm (by decide)
  have k7 : S.1 135 4 = 20 ↔ tk_K T n i = 7 := ma_tok (kk := 7) hm (by decide)
  have k2 : S.1 135 4 = 10 ↔ tk_K T n i = 2 := ma_tok (kk := 2) hm (by decide)
  have k15 : S.1 135 4 = 14 ↔ tk_K T n i = 15 := ma_tok (kk := 15) hm (by decide)
  unfold fn_Mo_begins fn_Mo_begins_52 fn_Mo_begins_57
  rw [if_pos fo_b1, if_pos fo_b0]
  simp only [k3, k4, k1, k7, k2, k15]
  by_cases h3 : tk_K T n i = 3
  · simp [h3]
  · by_cases h4 : tk_K T n i = 4
    · simp [h4]
    · by_cases h1 : tk_K T n i = 1
      · simp [h1]
      · by_cases h7 : tk_K T n i = 7
        · simp [h7]
        · by_cases h2 : tk_K T n i = 2
          · simp [h2]
          · by_cases h15 : tk_K T n i = 15
            · simp [h15]
            · simp [h3, h4, h1, h7, h2, h15]
def me_W (f m a b : Nat) : Prop := nx_W a b ∨ (a = 139 ∧ b = f) ∨ (a = 142 ∧ b = 16 * f + m ∧ m < 16)
theorem me_name (h8 : n ≤ 8000) (hm : mh_g T n f m t k u c l w i S) : ∃ x S', fn_Mo_name 0 S = some (x, S') ∧ of_f (me_W f m) S S' ∧ match ps_new (tk_K T n) false (decide (16 ≤ m)) i with
    | .error e => mt_e T n e S'
    | .ok j => x = Int32.ofNat m ∧ mh_g T n f (m + 1) t k u c l w j S' ∧ S'.2.1 142 (16 * f + m) = tk_V T n i := by
  have hf := hm.2.2.1
  have e31 := hm.2.1
  have e139 := hm.2.2.2.1
  have hm16 := hm.2.2.2.2.1
  have k2 : S.1 135 4 = 10 ↔ tk_K T n i = 2 := ma_tok (kk := 2) hm.1 (by decide)
  have h25 : ∀ S1 : wd_S, S1.1 135 31 = Int32.ofNat f → fn_Mo_name_25 0 S1 = fn_Mo_name_88 0 S1 := by
    intro S1 h31
    unfold fn_Mo_name_25
    rw [show wd_F = 999999 + 1 from rfl, fn_Mo_name_27, h31, if_neg (ms_in hf (by decide)), if_pos rfl, ite_self]
  have hbad : ∀ S1 : wd_S, ¬S1.1 135 9 = 0 → fn_Mo_name_136 S1 = some (0, S1) := by
    intro S1 h9
    unfold fn_Mo_name_136
    rw [if_neg h9]
  unfold fn_Mo_name ps_new
  rw [if_pos hm.1.2.2.1, if_neg (show ¬(tk_K T n i = 2 ∧ false = true) from fun z => by cases z.2)]
  by_cases hk : tk_K T n i = 2
  · rw [if_pos (k2.mpr hk), h25 S e31]
    unfold fn_Mo_name_88 fn_Mo_name_112
    rw [if_pos hm.1.2.2.1, if_pos rfl, e31, if_neg (ms_in hf (by decide)), im_t (by omega), e139]
    by_cases h16 : 16 ≤ m
    · have em : m = 16 := by omega
      rw [if_pos (by rw [em]; rfl), if_pos ⟨hk, decide_eq_true h16⟩]
      unfold fn_Mo_name_126
      obtain ⟨S2, e2, o2, r2⟩ := mt_stop (x := 6) (by decide) hm.1
      rw [e2, wd_d_s, hbad S2 (by rw [r2.2.1]; exact (show ¬(6 : Int32) = 0 by decide))]
      exact ⟨_, _, rfl, of_mono (fun a b z => Or.inl z) o2, r2⟩
    · rw [if_neg (fun z => h16 (by have := (im_eq (m := m) (n := 16) (by omega) (by omega)).mp z; omega)), if_neg (fun z => h16 (of_decide_eq_true z.2))]
      unfold fn_Mo_name_136
      have ei : (16 : Int32) * Int32.ofNat f + Int32.ofNat m = Int32.ofNat (16 * f + m) := by
        rw [show (16 : Int32) = Int32.ofNat 16 from rfl, ← Int32.ofNat_mul, ← Int32.ofNat_add]
      have hin96 := ms_in hf (show 96 < 2147483648 by decide)
      rw [if_pos hm.1.2.2.1, e31, if_neg hin96, im_t (by omega), e139, ei, if_neg (ms_in (show 16 * f + m < 1536 by omega) (by decide)), im_t (by omega)]
      simp only [wd_b]
      have g31 : (wd_l S 142 (16 * f + m) (S.2.1 135 7)).1 135 31 = Int32.ofNat f := e31
      have g139 : (wd_l S 142 (16 * f + m) (S.2.1 135 7)).1 139 f = Int32.ofNat m := e139
      rw [g31, if_neg hin96, if_neg hin96, im_t (by omega), g139, im_s]
      generalize hS3 : wd_i (wd_l S 142 (16 * f + m) (S.2.1 135 7)) 139 f (Int32.ofNat (m + 1)) = S3
      have o3 : of_f (fun a b => (a = 139 ∧ b = f) ∨ (a = 142 ∧ b = 16 * f + m)) S S3 := by
        rw [← hS3]
        exact of_i (Or.inl ⟨rfl, rfl⟩) (of_l (Or.inr ⟨rfl, rfl⟩) of_refl)
      have t3 : mt_g T n i S3 := mt_g_o hm.1 (fun a ha => by rw [ha]; exact funext (fun b => o3.1 _ _ (by omega))) (fun b hb => o3.1 _ _ (by omega)) (o3.2.1 _ _ (by omega))
      have m3 : mh_g T n f (m + 1) t k u c l w i S3 := by
        obtain ⟨a1, a2, a3, a4, a5, a6, a7, a8, a9, a10, a11⟩ := hm
        have hne : ∀ b, S3.1 135 b = S.1 135 b := fun b => o3.1 _ _ (by omega)
        exact ⟨t3, (hne 31).trans a2, a3, by rw [← hS3, fr_eq], by omega, (hne 35).trans a6, (hne 37).trans a7, (hne 30).trans a8, (hne 27).trans a9, (hne 28).trans a10, (hne 38).trans a11⟩
      obtain ⟨S4, f4, o4, r4⟩ := mt_pass h8 t3 (by rw [hk]; decide)
      rw [hk] at r4
      rw [f4, wd_d_s]
      refine ⟨_, S4, rfl, of_trans (of_mono (fun a b z => by rcases z with z | z; exact Or.inr (Or.inl z); exact Or.inr (Or.inr ⟨z.1, z.2, by omega⟩)) o3) (of_mono (fun a b z => Or.inl z) o4), ?_⟩
      cases q : ps_take (tk_K T n) 2 i with
      | error e => rw [q] at r4; exact r4
      | ok j =>
        rw [q] at r4
        refine ⟨rfl, mh_nx o4 m3 r4, ?_⟩
        rw [o4.2.1 142 _ (by unfold nx_W; omega), ← hS3]
        show (wd_l S 142 (16 * f + m) (S.2.1 135 7)).2.1 142 (16 * f + m) = _
        rw [fr_l1, if_pos ⟨rfl, rfl⟩]
        exact hm.1.2.2.2.2.2.2.2.2.2.2.1 hk
  · rw [if_neg (fun z => hk (k2.mp z)), if_neg (fun z => hk z.1)]
    obtain ⟨S2, e2, o2, r2⟩ := mt_stop (x := 2) (by decide) hm.1
    have h9 : ¬S2.1 135 9 = 0 := by rw [r2.2.1]; exact (show ¬(2 : Int32) = 0 by decide)
    have h88 : fn_Mo_name_88 0 S2 = some (0, S2) := by
      unfold fn_Mo_name_88
      rw [if_neg h9, hbad S2 h9]
    rw [e2, wd_d_s, h25 S2 (by rw [o2.1 135 31 (by unfold nx_W; omega)]; exact e31), h88]
    refine ⟨_, _, rfl, of_mono (fun a b z => Or.inl z) o2, ?_⟩
    unfold ps_take
    rw [if_neg hk]
    exact r2
/-- a part is kept in its node -/
theorem me_part {A x z : Nat} {s : Int32} (hs : (s = 15 ∧ A = 144) ∨ (s = 16 ∧ A = 145) ∨ (s = 17 ∧ A = 146)) (hm : mh_g T n f m (t + 1) (k + 1) u c l w i S) (ht : t < 4000) (hk : k < 1600) (hx : x < 15010) (h1 : S.1 152 t = s) (h2 : S.1 153 t = Int32.ofNat x) (h3 : S.1 155 k = Int32.ofNat z) : ∃ S', mp_go 1 S S' ∧ mh_g T n f m t k u c l w i S' ∧ S'.1 A x = Int32.ofNat z ∧ of_f (fun a b => (a = 135 ∧ (b = 35 ∨ b = 37)) ∨ (a = A ∧ b = x)) S S' := by
  have hp := mh_pop hm
  obtain ⟨S2, f2, m2, o2⟩ := mh_last hp hk
  have ez : (wd_i S 135 35 (Int32.ofNat t)).1 155 k = Int32.ofNat z := by rw [fr_ne (by omega)]; exact h3
  rw [ez] at f2
  have hA : 144 ≤ A ∧ A ≤ 146 := by omega
  have o3 : of_f (fun a b => a = A ∧ b = x) S2 (wd_i S2 A x (Int32.ofNat z)) := of_i ⟨rfl, rfl⟩ of_refl
  have m3 : mh_g T n f m t k u c l w i (wd_i S2 A x (Int32.ofNat z)) := mh_w o3 (fun a b z => by omega) m2
  have hin := ms_in hx (show 15010 < 2147483648 by decide)
  have hcode : fn_Mo_onRest s (Int32.ofNat x) (wd_i S 135 35 (Int32.ofNat t)) = some (wd_i S2 A x (Int32.ofNat z)) := by
    unfold fn_Mo_onRest fn_Mo_onRest_261
    simp only [wd_b]
    rcases hs with ⟨rfl, rfl⟩ | ⟨rfl, rfl⟩ | ⟨rfl, rfl⟩
    · rw [if_neg (by decide), if_neg (by decide), if_pos rfl, f2, wd_c_s, if_neg hin, im_t (by omega)]
    · rw [if_neg (by decide), if_neg (by decide), if_neg (by decide), if_pos rfl, f2, wd_c_s, if_neg hin, im_t (by omega)]
    · rw [if_neg (by decide), if_neg (by decide), if_neg (by decide), if_neg (by decide), if_pos rfl, f2, wd_c_s, if_neg hin, im_t (by omega)]
  refine ⟨_, mp_g1 (fun F => by
    rw [mp_pop hm ht F, h1, h2, if_neg (by rcases hs with ⟨z, -⟩ | ⟨z, -⟩ | ⟨z, -⟩ <;> rw [z] <;> decide), if_neg (by rcases hs with ⟨z, -⟩ | ⟨z, -⟩ | ⟨z, -⟩ <;> rw [z] <;> decide), if_pos (by rcases hs with ⟨z, -⟩ | ⟨z, -⟩ | ⟨z, -⟩ <;> rw [z] <;> decide)]) hcode, m3, fr_eq, ?_⟩
  exact of_trans (of_i (by omega) of_refl) (of_trans (of_mono (fun a b z => by unfold mw_37 at z; omega) o2) (of_mono (fun a b z => by omega) o3))
/-- a node is kept, and the E ends -/
theorem me_put {x : Nat} (hm : mh_g T n f m (t + 1 + 1) k u c l (w + 1) i S) (ht : t + 1 < 4000) (hk : k < 1600) (h1 : S.1 152 (t + 1) = 18) (h2 : S.1 153 (t + 1) = Int32.ofNat x) (h3 : S.1 152 t = 5) : ∃ S', mp_go 2 S S' ∧ mh_g T n f m t (k + 1) u c l w i S' ∧ S'.1 155 k = Int32.ofNat x ∧ of_f (fun a b => (a = 135 ∧ (b = 35 ∨ b = 37 ∨ b = 38)) ∨ (a = 155 ∧ b = k)) S S' := by
  have hp := mh_pop hm
  obtain ⟨S2, f2, m2, a2, o2⟩ := mh_keep (x := Int32.ofNat x) hp hk
  have hcode : fn_Mo_onRest 18 (Int32.ofNat x) (wd_i S 135 35 (Int32.ofNat (t + 1))) = some S2 := by
    unfold fn_Mo_onRest fn_Mo_onRest_261
    rw [if_neg (by decide), if_neg (by decide), if_neg (by decide), if_neg (by decide), if_neg (by decide), if_pos rfl, f2, wd_d_s]
  have G1 : mp_go 1 S S2 := mp_g1 (fun F => by rw [mp_pop hm ht F, h1, h2, if_neg (by decide), if_neg (by decide), if_pos (by decide)]) hcode
  have e5 : S2.1 152 t = 5 := by rw [o2.1 152 t (by unfold mw_k; omega), fr_ne (by omega)]; exact h3
  have hp2 := mh_pop m2
  have e38 := hp2.2.2.2.2.2.2.2.2.2.2
  have o3 : of_f (fun a b => a = 135 ∧ b = 38) (wd_i S2 135 35 (Int32.ofNat t)) (wd_i (wd_i S2 135 35 (Int32.ofNat t)) 135 38 (Int32.ofNat w)) := of_i ⟨rfl, rfl⟩ of_refl
  have G2 : mp_go 1 S2 (wd_i (wd_i S2 135 35 (Int32.ofNat t)) 135 38 (Int32.ofNat w)) := mp_g1 (o := fn_Mo_onSum 5 (S2.1 153 t) (wd_i S2 135 35 (Int32.ofNat t))) (fun F => by rw [mp_pop m2 (by omega) F, e5, if_neg (by decide), if_neg (by decide), if_neg (by decide)]) (by
    unfold fn_Mo_onSum fn_Mo_onSum_248
    rw [if_pos rfl]
    simp only [wd_b]
    rw [e38, im_p])
  refine ⟨_, mp_got G1 G2, ?_, ?_, ?_⟩
  · have hne : ∀ b, b ≠ 38 → (wd_i (wd_i S2 135 35 (Int32.ofNat t)) 135 38 (Int32.ofNat w)).1 135 b = (wd_i S2 135 35 (Int32.ofNat t)).1 135 b := fun b hb => fr_ne (by omega)
    refine mh_u hp2 (funext (fun b => fr_ne (by omega))) (fun k hk => hne k (by omega)) rfl (fr_ne (by omega)) ?_ ?_ ?_ ?_ ?_ fr_eq
    · rw [hne 35 (by decide)]; exact hp2.2.2.2.2.2.1
    · rw [hne 37 (by decide)]; exact hp2.2.2.2.2.2.2.1
    · rw [hne 30 (by decide)]; exact hp2.2.2.2.2.2.2.2.1
    · rw [hne 27 (by decide)]; exact hp2.2.2.2.2.2.2.2.2.1
    · rw [hne 28 (by decide)]; exact hp2.2.2.2.2.2.2.2.2.2.1
  · rw [fr_ne (by omega), fr_ne (by omega)]; exact a2
  · exact of_trans (of_i (by omega) of_refl) (of_trans (of_mono (fun a b z => by unfold mw_k at z; omega) o2) (of_i (by omega) (of_i (by omega) of_refl)))
/-- the E ends -/
theorem me_end (hm : mh_g T n f m (t + 1) k u c l (w + 1) i S) (ht : t < 4000) (h3 : S.1 152 t = 5) : ∃ S', mp_go 1 S S' ∧ mh_g T n f m t k u c l w i S' ∧ of_f (fun a b => a = 135 ∧ (b = 35 ∨ b = 38)) S S' := by
  have hp2 := mh_pop hm
  have e38 := hp2.2.2.2.2.2.2.2.2.2.2
  have G2 : mp_go 1 S (wd_i (wd_i S 135 35 (Int32.ofNat t)) 135 38 (Int32.ofNat w)) := mp_g1 (o := fn_Mo_onSum 5 (S.1 153 t) (wd_i S 135 35 (Int32.ofNat t))) (fun F => by rw [mp_pop hm ht F, h3, if_neg (by decide), if_neg (by decide), if_neg (by decide)]) (by
    unfold fn_Mo_onSum fn_Mo_onSum_248
    rw [if_pos rfl]
    simp only [wd_b]
    rw [e38, im_p])
  refine ⟨_, G2, ?_, of_i (by omega) (of_i (by omega) of_refl)⟩
  have hne : ∀ b, b ≠ 38 → (wd_i (wd_i S 135 35 (Int32.ofNat t)) 135 38 (Int32.ofNat w)).1 135 b = (wd_i S 135 35 (Int32.ofNat t)).1 135 b := fun b hb => fr_ne (by omega)
  refine mh_u hp2 (funext (fun b => fr_ne (by omega))) (fun k hk => hne k (by omega)) rfl (fr_ne (by omega)) ?_ ?_ ?_ ?_ ?_ fr_eq
  · rw [hne 35 (by decide)]; exact hp2.2.2.2.2.2.1
  · rw [hne 37 (by decide)]; exact hp2.2.2.2.2.2.2.1
  · rw [hne 30 (by decide)]; exact hp2.2.2.2.2.2.2.2.1
  · rw [hne 27 (by decide)]; exact hp2.2.2.2.2.2.2.2.2.1
  · rw [hne 28 (by decide)]; exact hp2.2.2.2.2.2.2.2.2.2.1
end Me
end
/-! part 87 -/
section
/-! The reference: let and if. -/
section Mf
variable {T : Nat → Int32} {H n f r d m t k u c l w i : Nat} {S S' S1 : wd_S} {e : ps_E} {self : ps_P} {sc : List (Int64 × Nat)}
theorem mw_p_le {t' : Nat} (h : t ≤ t') : ∀ a b, mw_p t' a b → mp_W f m t k u c l H a b := fun a b z => mp_le (Nat.le_refl _) h (Nat.le_refl _) (Nat.le_refl _) (Nat.le_refl _) (Nat.le_refl _) a b (mw_p_W a b z)
theorem mw_nm {W : Nat → Nat → Prop} (hcH : c < H) (hw : ∀ a b, W a b → (a = 135 ∧ (b = 35 ∨ b = 37 ∨ b = 38 ∨ b = 27)) ∨ (143 ≤ a ∧ a ≤ 148 ∧ b = c) ∨ (a = 155 ∧ b = k)) : ∀ a b, W a b → mp_W f m t k u c l H a b := fun a b z => by
  rcases hw a b z with z | z | z
  · exact Or.inl ⟨z.1, by omega⟩
  · exact Or.inr (Or.inr (Or.inr (Or.inl ⟨z.1, z.2.1, by omega, by omega⟩)))
  · exact Or.inr (Or.inr (Or.inr (Or.inr (Or.inr (Or.inr (Or.inr (Or.inr ⟨z.1, by omega⟩)))))))
theorem mw_me {m' : Nat} (h : m ≤ m') : ∀ a b, me_W f m' a b → mp_W f m t k u c l H a b := fun a b z => by
  rcases z with z | z | z
  · exact nx_W_W a b z
  · exact Or.inr (Or.inl z)
  · exact Or.inr (Or.inr (Or.inl ⟨z.1, by omega, by omega⟩))
theorem mw_want : ∀ a b, (nx_W a b ∨ mw_35 a b) → mp_W f m t k u c l H a b := fun a b z => by
  rcases z with z | z
  · exact nx_W_W a b z
  · exact mw_35_W a b z
/-- a let whose word is taken -/
theorem mf_let (h8 : n ≤ 8000) (hE : ∀ sc, mp_C T n f H r 0 0 d 1 4 (self sc)) (hgd : ∀ sc i m q, self sc i m = .ok q → ps_good (tk_K T n) d i m q) (hm : mh_g T n f m (t + 9) k u (c + 1) l (w + 1) (i + 1) S) (hs : mh_s t [(5, 0), (18, Int32.ofNat c), (16, Int32.ofNat c), (4, 0), (1, 6), (15, Int32.ofNat c), (4, 0), (1, 13), (13, Int32.ofNat c)] S) (b1 : t + 12 * r + 12 ≤ 300) (b2 : k + 4 * r + 4 ≤ 100) (b3 : u ≤ i) (b4 : c + 1501 ≤ H + i) (b5 : l + 1501 ≤ H + i) (b6 : w + 1 + r = 24 ∧ H ≤ 3002) (hi : i < 1500) (h143 : S.1 143 c = 3) : ∃ g S', mp_go g S S' ∧ of_f (mp_W f m t k u c l H) S S' ∧ match (ps_b (ps_new (tk_K T n) false (decide (16 ≤ m)) (i + 1)) fun i2 => ps_b (ps_take (tk_K T n) 14 i2) fun i3 => ps_b (self sc i3 (m + 1)) fun q => ps_b (ps_take (tk_K T n) 13 q.2.2.2.1) fun i4 => ps_b (self ((tk_V T n (i + 1), m) :: sc) i4 q.2.2.2.2) fun r => .ok (tr_2 3 (Int32.ofNat m) (i + 1) q.1 r.1, q.2.1 ++ r.2.1, 1 + q.2.2.1 + r.2.2.1, r.2.2.2.1, r.2.2.2.2) : Except ps_E ps_O) with
    | .error e => mt_e T n e S' ∧ g + 2 ≤ 12 * (1501 - i)
    | .ok q => g + 2 ≤ 12 * (q.2.2.2.1 - i) ∧ ∃ l', l ≤ l' ∧ l' + i ≤ l + q.2.2.2.1 ∧ mh_g T n f q.2.2.2.2 t (k + 1) u (c + q.2.2.1) l' w q.2.2.2.1 S' ∧ ∃ y, S'.1 155 k = Int32.ofNat y ∧ mr_t T n f S' c (c + q.2.2.1) l l' m q.2.2.2.2 (d + 1) y q.1 := by
  have s0 : S.1 152 t = 5 := (hs 0 (show 0 < 9 by decide)).1
  have s1 : S.1 152 (t + 1) = 18 := (hs 1 (show 1 < 9 by decide)).1
  have s1' : S.1 153 (t + 1) = Int32.ofNat c := (hs 1 (show 1 < 9 by decide)).2
  have s2 : S.1 152 (t + 2) = 16 := (hs 2 (show 2 < 9 by decide)).1
  have s2' : S.1 153 (t + 2) = Int32.ofNat c := (hs 2 (show 2 < 9 by decide)).2
  have s3 : S.1 152 (t + 3) = 4 := (hs 3 (show 3 < 9 by decide)).1
  have s4 : S.1 152 (t + 4) = 1 := (hs 4 (show 4 < 9 by decide)).1
  have s4' : S.1 153 (t + 4) = lx_cv 13 := (hs 4 (show 4 < 9 by decide)).2
  have s5 : S.1 152 (t + 5) = 15 := (hs 5 (show 5 < 9 by decide)).1
  have s5' : S.1 153 (t + 5) = Int32.ofNat c := (hs 5 (show 5 < 9 by decide)).2
  have s6 : S.1 152 (t + 6) = 4 := (hs 6 (show 6 < 9 by decide)).1
  have s7 : S.1 152 (t + 7) = 1 := (hs 7 (show 7 < 9 by decide)).1
  have s7' : S.1 153 (t + 7) = lx_cv 14 := (hs 7 (show 7 < 9 by decide)).2
  have s8 : S.1 152 (t + 8) = 13 := (hs 8 (show 8 < 9 by decide)).1
  have s8' : S.1 153 (t + 8) = Int32.ofNat c := (hs 8 (show 8 < 9 by decide)).2
  -- the name
  have hp := mh_pop (t := t + 8) hm
  obtain ⟨x, Sa, fa, oa, ra⟩ := me_name h8 hp
  have hin := ms_in (show c < 15010 by omega) (show 15010 < 2147483648 by decide)
  have hcode : fn_Mo_onRest 13 (Int32.ofNat c) (wd_i S 135 35 (Int32.ofNat (t + 8))) = some (wd_i Sa 146 c x) := by
    unfold fn_Mo_onRest fn_Mo_onRest_261
    rw [if_pos rfl, fa, wd_c_s, if_neg hin]
    simp only [wd_b]
    rw [im_t (by omega)]
  have Ga : mp_go 1 S (wd_i Sa 146 c x) := mp_g1 (fun F => by rw [mp_pop (t := t + 8) hm (by omega) F, s8, s8', if_neg (by decide), if_neg (by decide), if_pos (by decide)]) hcode
  have oB : of_f (fun a b => a = 146 ∧ b = c) Sa (wd_i Sa 146 c x) := of_i ⟨rfl, rfl⟩ of_refl
  have oP : of_f mw_35 S (wd_i S 135 35 (Int32.ofNat (t + 8))) := of_i ⟨rfl, rfl⟩ of_refl
  have OB : of_f (mp_W f m t k u c l H) S (wd_i Sa 146 c x) := mp_of_f2 (mw_nm (by omega) (fun a b z => by omega)) (mp_of_f2 (mw_me (Nat.le_refl _)) (of_mono mw_35_W oP) oa) oB
  have e146 : (wd_i Sa 146 c x).1 146 c = x := fr_eq
  have keep1 : ∀ a b, ¬(a = 135 ∧ ((3 ≤ b ∧ b ≤ 10) ∨ b = 35)) → ¬(a = 139) → ¬(a = 142) → ¬(a = 146 ∧ b = c) → (wd_i Sa 146 c x).1 a b = S.1 a b := fun a b h1 h2 h3 h4 => by
    rw [oB.1 a b h4, oa.1 a b (by unfold me_W nx_W; omega), oP.1 a b (by unfold mw_35; omega)]
  cases q1 : ps_new (tk_K T n) false (decide (16 ≤ m)) (i + 1) with
  | error e =>
    rw [q1] at ra
    exact ⟨1, _, Ga, OB, mt_e_o ra (oB.1 135 9 (by omega)) (oB.1 135 10 (by omega)), by omega⟩
  | ok i2 =>
    rw [q1] at ra
    obtain ⟨rx, ma, va⟩ := ra
    obtain ⟨q1a, -, q1b⟩ := ps_new_ok q1
    have q1b := of_decide_eq_false q1b
    obtain ⟨t1, t2, rfl, t4⟩ := ps_take_ok q1a
    have mb := mh_w oB (fun a b z => by omega) ma
    have vb : (wd_i Sa 146 c x).2.1 142 (16 * f + m) = tk_V T n (i + 1) := va
    have e146 : (wd_i Sa 146 c x).1 146 c = Int32.ofNat m := e146.trans rx
    generalize wd_i Sa 146 c x = Sb at mb vb Ga OB e146 keep1
    -- =
    obtain ⟨Sc, Gc, oc, rc⟩ := mp_want (t := t + 7) (kd := 14) h8 mb (by omega) (by rw [keep1 _ _ (by omega) (by omega) (by omega) (by omega)]; exact s7) (by rw [keep1 _ _ (by omega) (by omega) (by omega) (by omega)]; exact s7') (by decide) (by decide)
    have Oc : of_f (mp_W f m t k u c l H) S Sc := mp_of_f2 mw_want OB oc
    show ∃ g S', mp_go g S S' ∧ of_f (mp_W f m t k u c l H) S S' ∧ (match (ps_b (ps_take (tk_K T n) 14 (i + 1 + 1)) fun i3 => ps_b (self sc i3 (m + 1)) fun q => ps_b (ps_take (tk_K T n) 13 q.2.2.2.1) fun i4 => ps_b (self ((tk_V T n (i + 1), m) :: sc) i4 q.2.2.2.2) fun r => .ok (tr_2 3 (Int32.ofNat m) (i + 1) q.1 r.1, q.2.1 ++ r.2.1, 1 + q.2.2.1 + r.2.2.1, r.2.2.2.1, r.2.2.2.2) : Except ps_E ps_O) with
      | .error e => mt_e T n e S' ∧ g + 2 ≤ 12 * (1501 - i)
      | .ok q => g + 2 ≤ 12 * (q.2.2.2.1 - i) ∧ ∃ l', l ≤ l' ∧ l' + i ≤ l + q.2.2.2.1 ∧ mh_g T n f q.2.2.2.2 t (k + 1) u (c + q.2.2.1) l' w q.2.2.2.1 S' ∧ ∃ y, S'.1 155 k = Int32.ofNat y ∧ mr_t T n f S' c (c + q.2.2.1) l l' m q.2.2.2.2 (d + 1) y q.1)
    cases q2 : ps_take (tk_K T n) 14 (i + 1 + 1) with
    | error e =>
      rw [q2] at rc
      exact ⟨1 + 1, Sc, mp_got Ga Gc, Oc, rc, by omega⟩
    | ok i3 =>
      rw [q2] at rc
      obtain ⟨t5, t6, rfl, t8⟩ := ps_take_ok q2
      have keep2 : ∀ a b, ¬(a = 135 ∧ ((3 ≤ b ∧ b ≤ 10) ∨ b = 35)) → ¬(a = 139) → ¬(a = 142) → ¬(a = 146 ∧ b = c) → Sc.1 a b = S.1 a b := fun a b h1 h2 h3 h4 => by
        rw [oc.1 a b (by unfold nx_W mw_35; omega)]; exact keep1 a b h1 h2 h3 h4
      have c146 : Sc.1 146 c = Int32.ofNat m := by rw [oc.1 146 c (by unfold nx_W mw_35; omega)]; exact e146
      have c142 : Sc.2.1 142 (16 * f + m) = tk_V T n (i + 1) := by rw [oc.2.1 142 _ (by unfold nx_W mw_35; omega)]; exact vb
      obtain ⟨gd, Sd, Gd, Od, Rd⟩ := hE sc (i + 1 + 1 + 1) (m + 1) (t + 6) k u (c + 1) l (w + 1) Sc rc (by rw [keep2 _ _ (by omega) (by omega) (by omega) (by omega)]; exact s6) (by omega) (by omega) (by omega) (by omega) (by omega) b6
      have OD : of_f (mp_W f m t k u c l H) S Sd := mp_of_f2 (mp_le (Nat.le_succ _) (by omega) (Nat.le_refl _) (Nat.le_refl _) (Nat.le_succ _) (Nat.le_refl _)) Oc Od
      show ∃ g S', mp_go g S S' ∧ of_f (mp_W f m t k u c l H) S S' ∧ (match (ps_b (self sc (i + 1 + 1 + 1) (m + 1)) fun q => ps_b (ps_take (tk_K T n) 13 q.2.2.2.1) fun i4 => ps_b (self ((tk_V T n (i + 1), m) :: sc) i4 q.2.2.2.2) fun r => .ok (tr_2 3 (Int32.ofNat m) (i + 1) q.1 r.1, q.2.1 ++ r.2.1, 1 + q.2.2.1 + r.2.2.1, r.2.2.2.1, r.2.2.2.2) : Except ps_E ps_O) with
        | .error e => mt_e T n e S' ∧ g + 2 ≤ 12 * (1501 - i)
        | .ok q => g + 2 ≤ 12 * (q.2.2.2.1 - i) ∧ ∃ l', l ≤ l' ∧ l' + i ≤ l + q.2.2.2.1 ∧ mh_g T n f q.2.2.2.2 t (k + 1) u (c + q.2.2.1) l' w q.2.2.2.1 S' ∧ ∃ y, S'.1 155 k = Int32.ofNat y ∧ mr_t T n f S' c (c + q.2.2.1) l l' m q.2.2.2.2 (d + 1) y q.1)
      cases q3 : self sc (i + 1 + 1 + 1) (m + 1) with
      | error e =>
        rw [q3] at Rd
        exact ⟨1 + 1 + gd, Sd, mp_got (mp_got Ga Gc) Gd, OD, Rd.1, by have := Rd.2; omega⟩
      | ok q =>
        rw [q3] at Rd
        obtain ⟨gc1, l1, L1, L2, Md, y1, Y1, D1⟩ := Rd
        obtain ⟨p1, p2, p3, p4, p5, p6, p7, -⟩ := hgd _ _ _ q q3
        have keep3 : ∀ a b, (a = 152 ∨ a = 153) → b < t + 6 → Sd.1 a b = S.1 a b := fun a b h1 h2 => by
          rw [Od.1 a b (mp_W_n (by omega))]; exact keep2 a b (by omega) (by omega) (by omega) (by omega)
        have keepc : ∀ a, 143 ≤ a → a ≤ 147 → Sd.1 a c = Sc.1 a c := fun a h1 h2 => Od.1 a c (mp_W_n (by omega))
        have d142 : Sd.2.1 142 (16 * f + m) = tk_V T n (i + 1) := by rw [Od.2.1 142 _ (mp_W_n (by omega))]; exact c142
        -- the first part
        obtain ⟨Se, Ge, me, Ve, oe⟩ := me_part (t := t + 5) (A := 144) (s := 15) (Or.inl ⟨rfl, rfl⟩) Md (by omega) (by omega) (show c < 15010 by omega) (by rw [keep3 _ _ (by omega) (by omega)]; exact s5) (by rw [keep3 _ _ (by omega) (by omega)]; exact s5') Y1
        have OE : of_f (mp_W f m t k u c l H) S Se := mp_of_f2 (mw_nm (by omega) (fun a b z => by omega)) OD oe
        -- in
        obtain ⟨Sf, Gf, of', rf⟩ := mp_want (t := t + 4) (kd := 13) h8 me (by omega) (by rw [oe.1 152 _ (by omega), keep3 _ _ (by omega) (by omega)]; exact s4) (by rw [oe.1 153 _ (by omega), keep3 _ _ (by omega) (by omega)]; exact s4') (by decide) (by decide)
        have OF : of_f (mp_W f m t k u c l H) S Sf := mp_of_f2 mw_want OE of'
        show ∃ g S', mp_go g S S' ∧ of_f (mp_W f m t k u c l H) S S' ∧ (match (ps_b (ps_take (tk_K T n) 13 q.2.2.2.1) fun i4 => ps_b (self ((tk_V T n (i + 1), m) :: sc) i4 q.2.2.2.2) fun r => .ok (tr_2 3 (Int32.ofNat m) (i + 1) q.1 r.1, q.2.1 ++ r.2.1, 1 + q.2.2.1 + r.2.2.1, r.2.2.2.1, r.2.2.2.2) : Except ps_E ps_O) with
          | .error e => mt_e T n e S' ∧ g + 2 ≤ 12 * (1501 - i)
          | .ok q => g + 2 ≤ 12 * (q.2.2.2.1 - i) ∧ ∃ l', l ≤ l' ∧ l' + i ≤ l + q.2.2.2.1 ∧ mh_g T n f q.2.2.2.2 t (k + 1) u (c + q.2.2.1) l' w q.2.2.2.1 S' ∧ ∃ y, S'.1 155 k = Int32.ofNat y ∧ mr_t T n f S' c (c + q.2.2.1) l l' m q.2.2.2.2 (d + 1) y q.1)
        cases q4 : ps_take (tk_K T n) 13 q.2.2.2.1 with
        | error e =>
          rw [q4] at rf
          exact ⟨1 + 1 + gd + 1 + 1, Sf, mp_got (mp_got (mp_got (mp_got Ga Gc) Gd) Ge) Gf, OF, rf, by omega⟩
        | ok i4 =>
          rw [q4] at rf
          obtain ⟨-, t9, rfl, -⟩ := ps_take_ok q4
          have keep4 : ∀ a b, (a = 152 ∨ a = 153) → b < t + 6 → Sf.1 a b = S.1 a b := fun a b h1 h2 => by
            rw [of'.1 a b (by unfold nx_W mw_35; omega), oe.1 a b (by omega)]; exact keep3 a b h1 h2
          obtain ⟨gg, Sg, Gg, Og, Rg⟩ := hE ((tk_V T n (i + 1), m) :: sc) (q.2.2.2.1 + 1) q.2.2.2.2 (t + 3) k u (c + 1 + q.2.2.1) l1 (w + 1) Sf rf (by rw [keep4 _ _ (by omega) (by omega)]; exact s3) (by omega) (by omega) (by omega) (by omega) (by omega) b6
          have OG : of_f (mp_W f m t k u c l H) S Sg := mp_of_f2 (mp_le (by omega) (by omega) (Nat.le_refl _) (Nat.le_refl _) (by omega) L1) OF Og
          have G5 := mp_got (mp_got (mp_got (mp_got (mp_got Ga Gc) Gd) Ge) Gf) Gg
          show ∃ g S', mp_go g S S' ∧ of_f (mp_W f m t k u c l H) S S' ∧ (match (ps_b (self ((tk_V T n (i + 1), m) :: sc) (q.2.2.2.1 + 1) q.2.2.2.2) fun r => .ok (tr_2 3 (Int32.ofNat m) (i + 1) q.1 r.1, q.2.1 ++ r.2.1, 1 + q.2.2.1 + r.2.2.1, r.2.2.2.1, r.2.2.2.2) : Except ps_E ps_O) with
            | .error e => mt_e T n e S' ∧ g + 2 ≤ 12 * (1501 - i)
            | .ok q => g + 2 ≤ 12 * (q.2.2.2.1 - i) ∧ ∃ l', l ≤ l' ∧ l' + i ≤ l + q.2.2.2.1 ∧ mh_g T n f q.2.2.2.2 t (k + 1) u (c + q.2.2.1) l' w q.2.2.2.1 S' ∧ ∃ y, S'.1 155 k = Int32.ofNat y ∧ mr_t T n f S' c (c + q.2.2.1) l l' m q.2.2.2.2 (d + 1) y q.1)
          cases q5 : self ((tk_V T n (i + 1), m) :: sc) (q.2.2.2.1 + 1) q.2.2.2.2 with
          | error e =>
            rw [q5] at Rg
            exact ⟨_, Sg, G5, OG, Rg.1, by have := Rg.2; omega⟩
          | ok r' =>
            rw [q5] at Rg
            obtain ⟨gc2, l2, L3, L4, Mg, y2, Y2, D2⟩ := Rg
            obtain ⟨j1, j2, j3, j4, j5, j6, j7, -⟩ := hgd _ _ _ r' q5
            have keep5 : ∀ a b, (a = 152 ∨ a = 153) → b < t + 3 → Sg.1 a b = S.1 a b := fun a b h1 h2 => by
              rw [Og.1 a b (mp_W_n (by omega))]; exact keep4 a b h1 (by omega)
            obtain ⟨Sh, Gh, mh, Vh, oh⟩ := me_part (t := t + 2) (A := 145) (s := 16) (Or.inr (Or.inl ⟨rfl, rfl⟩)) Mg (by omega) (by omega) (show c < 15010 by omega) (by rw [keep5 _ _ (by omega) (by omega)]; exact s2) (by rw [keep5 _ _ (by omega) (by omega)]; exact s2') Y2
            have OH : of_f (mp_W f m t k u c l H) S Sh := mp_of_f2 (mw_nm (by omega) (fun a b z => by omega)) OG oh
            obtain ⟨Si, Gi, mi, Vi, oi⟩ := me_put (x := c) mh (by omega) (by omega) (by rw [oh.1 152 _ (by omega), keep5 _ _ (by omega) (by omega)]; exact s1) (by rw [oh.1 153 _ (by omega), keep5 _ _ (by omega) (by omega)]; exact s1') (by rw [oh.1 152 _ (by omega), keep5 _ _ (by omega) (by omega)]; exact s0)
            have OI : of_f (mp_W f m t k u c l H) S Si := mp_of_f2 (mw_nm (by omega) (fun a b z => by omega)) OH oi
            have hMi : mh_g T n f r'.2.2.2.2 t (k + 1) u (c + (1 + q.2.2.1 + r'.2.2.1)) l2 w r'.2.2.2.1 Si := by
              rw [show c + (1 + q.2.2.1 + r'.2.2.1) = c + 1 + q.2.2.1 + r'.2.2.1 by omega]
              exact mi
            refine ⟨_, Si, mp_got (mp_got G5 Gh) Gi, OI, ?_, l2, by omega, ?_, hMi, c, Vi, Nat.le_refl _, ?_, ?_⟩
            · show 1 + 1 + gd + 1 + 1 + gg + 1 + 2 + 2 ≤ 12 * (r'.2.2.2.1 - i)
              omega
            · show l2 + i ≤ l + r'.2.2.2.1
              omega
            · show c < c + (1 + q.2.2.1 + r'.2.2.1)
              omega
            · have rc : ∀ a, 143 ≤ a → a ≤ 147 → a ≠ 144 → a ≠ 145 → Si.1 a c = Sc.1 a c := fun a h1 h2 h3 h4 => by
                rw [oi.1 a c (by omega), oh.1 a c (by omega), Og.1 a c (mp_W_n (by omega)), of'.1 a c (by unfold nx_W mw_35; omega), oe.1 a c (by omega)]
                exact keepc a h1 h2
              have r144 : Si.1 144 c = Int32.ofNat y1 := by
                rw [oi.1 144 c (by omega), oh.1 144 c (by omega), Og.1 144 c (mp_W_n (by omega)), of'.1 144 c (by unfold nx_W mw_35; omega)]
                exact Ve
              have r145 : Si.1 145 c = Int32.ofNat y2 := by
                rw [oi.1 145 c (by omega)]
                exact Vh
              have r142 : Si.2.1 142 (16 * f + m) = tk_V T n (i + 1) := by
                rw [oi.2.1 142 _ (by omega), oh.2.1 142 _ (by omega), Og.2.1 142 _ (mp_W_n (by omega)), of'.2.1 142 _ (by unfold nx_W mw_35; omega), oe.2.1 142 _ (by omega)]
                exact d142
              have x143 : Si.1 143 c = 3 := by
                rw [rc 143 (by omega) (by omega) (by omega) (by omega), keep2 143 c (by omega) (by omega) (by omega) (by omega)]
                exact h143
              have g1 : mr_g f (c + 1) (c + 1 + q.2.2.1) l l1 (m + 1) q.2.2.2.2 Sd Sf := mr_g_t (mr_g_o oe (fun a x y1 y2 y3 y4 => by omega) (fun x y1 y2 => by omega) (fun x y1 y2 => by omega)) (mr_g_o of' (fun a x y1 y2 y3 y4 => by unfold nx_W mw_35; omega) (fun x y1 y2 => by unfold nx_W mw_35; omega) (fun x y1 y2 => by unfold nx_W mw_35; omega))
              have g2 : mr_g f (c + 1) (c + 1 + q.2.2.1) l l1 (m + 1) q.2.2.2.2 Sf Sg := mr_g_W Og (Nat.le_refl _) (Nat.le_refl _) (Nat.le_refl _)
              have g3 : ∀ lo hi al ah nl nh, c + 1 ≤ lo → mr_g f lo hi al ah nl nh Sg Si := fun lo hi al ah nl nh hh => mr_g_t (mr_g_o oh (fun a x y1 y2 y3 y4 => by omega) (fun x y1 y2 => by omega) (fun x y1 y2 => by omega)) (mr_g_o oi (fun a x y1 y2 y3 y4 => by omega) (fun x y1 y2 => by omega) (fun x y1 y2 => by omega))
              refine Or.inr (Or.inr (Or.inl ⟨rfl, rfl, x143, ?_, ⟨m, rfl, Nat.le_refl _, by show m < r'.2.2.2.2; omega, r142⟩, y1, y2, c + 1, c + 1 + q.2.2.1, c + 1 + q.2.2.1 + r'.2.2.1, r144, r145, Nat.lt_succ_self c, ?_, ?_, by show c + 1 + q.2.2.1 + r'.2.2.1 ≤ c + (1 + q.2.2.1 + r'.2.2.1); omega⟩))
              · rw [rc 146 (by omega) (by omega) (by omega) (by omega)]
                exact c146
              · exact mr_t_m (Nat.le_refl _) (Nat.le_refl _) (Nat.le_refl _) (by omega) (Nat.le_succ _) j3 (mr_g_t (mr_g_t g1 g2) (g3 _ _ _ _ _ _ (Nat.le_refl _))) _ _ _ D1
              · exact mr_t_m (Nat.le_refl _) (Nat.le_refl _) L1 (Nat.le_refl _) (by omega) (Nat.le_refl _) (g3 _ _ _ _ _ _ (by omega)) _ _ _ D2
end Mf
end
/-! part 88 -/
section
/-! The reference: if. -/
section Mi
variable {T : Nat → Int32} {H n f r d m t k u c l w i : Nat} {S S' S1 : wd_S} {e : ps_E} {self : ps_P} {sc : List (Int64 × Nat)}
/-- an if whose word is taken -/
theorem mi_if (h8 : n ≤ 8000) (hE : ∀ sc, mp_C T n f H r 0 0 d 1 4 (self sc)) (hgd : ∀ sc i m q, self sc i m = .ok q → ps_good (tk_K T n) d i m q) (hm : mh_g T n f m (t + 10) k u (c + 1) l (w + 1) (i + 1) S) (hs : mh_s t [(5, 0), (18, Int32.ofNat c), (17, Int32.ofNat c), (4, 0), (1, 4), (16, Int32.ofNat c), (4, 0), (1, 3), (15, Int32.ofNat c), (4, 0)] S) (b1 : t + 12 * r + 12 ≤ 300) (b2 : k + 4 * r + 4 ≤ 100) (b3 : u ≤ i) (b4 : c + 1501 ≤ H + i) (b5 : l + 1501 ≤ H + i) (b6 : w + 1 + r = 24 ∧ H ≤ 3002) (hi : i < 1500) (h143 : S.1 143 c = 2) : ∃ g S', mp_go g S S' ∧ of_f (mp_W f m t k u c l H) S S' ∧ match (ps_b (self sc (i + 1) m) fun q => ps_b (ps_take (tk_K T n) 11 q.2.2.2.1) fun i2 => ps_b (self sc i2 q.2.2.2.2) fun r => ps_b (ps_take (tk_K T n) 12 r.2.2.2.1) fun i3 => ps_b (self sc i3 r.2.2.2.2) fun s => .ok (tr_3 4 0 0 q.1 r.1 s.1, q.2.1 ++ (r.2.1 ++ s.2.1), 1 + q.2.2.1 + r.2.2.1 + s.2.2.1, s.2.2.2.1, s.2.2.2.2) : Except ps_E ps_O) with
      | .error e => mt_e T n e S' ∧ g + 2 ≤ 12 * (1501 - i)
      | .ok q => g + 2 ≤ 12 * (q.2.2.2.1 - i) ∧ ∃ l', l ≤ l' ∧ l' + i ≤ l + q.2.2.2.1 ∧ mh_g T n f q.2.2.2.2 t (k + 1) u (c + q.2.2.1) l' w q.2.2.2.1 S' ∧ ∃ y, S'.1 155 k = Int32.ofNat y ∧ mr_t T n f S' c (c + q.2.2.1) l l' m q.2.2.2.2 (d + 1) y q.1 := by
  have s0 : S.1 152 t = 5 := (hs 0 (show 0 < 10 by decide)).1
  have s1 : S.1 152 (t + 1) = 18 := (hs 1 (show 1 < 10 by decide)).1
  have s1' : S.1 153 (t + 1) = Int32.ofNat c := (hs 1 (show 1 < 10 by decide)).2
  have s2 : S.1 152 (t + 2) = 17 := (hs 2 (show 2 < 10 by decide)).1
  have s2' : S.1 153 (t + 2) = Int32.ofNat c := (hs 2 (show 2 < 10 by decide)).2
  have s3 : S.1 152 (t + 3) = 4 := (hs 3 (show 3 < 10 by decide)).1
  have s4 : S.1 152 (t + 4) = 1 := (hs 4 (show 4 < 10 by decide)).1
  have s4' : S.1 153 (t + 4) = lx_cv 12 := (hs 4 (show 4 < 10 by decide)).2
  have s5 : S.1 152 (t + 5) = 16 := (hs 5 (show 5 < 10 by decide)).1
  have s5' : S.1 153 (t + 5) = Int32.ofNat c := (hs 5 (show 5 < 10 by decide)).2
  have s6 : S.1 152 (t + 6) = 4 := (hs 6 (show 6 < 10 by decide)).1
  have s7 : S.1 152 (t + 7) = 1 := (hs 7 (show 7 < 10 by decide)).1
  have s7' : S.1 153 (t + 7) = lx_cv 11 := (hs 7 (show 7 < 10 by decide)).2
  have s8 : S.1 152 (t + 8) = 15 := (hs 8 (show 8 < 10 by decide)).1
  have s8' : S.1 153 (t + 8) = Int32.ofNat c := (hs 8 (show 8 < 10 by decide)).2
  have s9 : S.1 152 (t + 9) = 4 := (hs 9 (show 9 < 10 by decide)).1
  obtain ⟨ga, Sa, Ga, Oa, Ra⟩ := hE sc (i + 1) m (t + 9) k u (c + 1) l (w + 1) S hm s9 (by omega) (by omega) (by omega) (by omega) (by omega) b6
  have OA : of_f (mp_W f m t k u c l H) S Sa := of_mono (mp_le (Nat.le_refl _) (by omega) (Nat.le_refl _) (Nat.le_refl _) (Nat.le_succ _) (Nat.le_refl _)) Oa
  cases q1 : self sc (i + 1) m with
  | error e =>
    rw [q1] at Ra
    exact ⟨ga, Sa, Ga, OA, Ra.1, by have := Ra.2; omega⟩
  | ok q =>
    rw [q1] at Ra
    obtain ⟨gc1, l1, L1, L2, Ma, y1, Y1, D1⟩ := Ra
    obtain ⟨p1, p2, p3, p4, p5, p6, p7, -⟩ := hgd _ _ _ q q1
    have keep1 : ∀ a b, (a = 152 ∨ a = 153) → b < t + 9 → Sa.1 a b = S.1 a b := fun a b h1 h2 => Oa.1 a b (mp_W_n (by omega))
    obtain ⟨Sb, Gb, mb, Vb, ob⟩ := me_part (t := t + 8) (A := 144) (s := 15) (Or.inl ⟨rfl, rfl⟩) Ma (by omega) (by omega) (show c < 15010 by omega) (by rw [keep1 _ _ (by omega) (by omega)]; exact s8) (by rw [keep1 _ _ (by omega) (by omega)]; exact s8') Y1
    have OB : of_f (mp_W f m t k u c l H) S Sb := mp_of_f2 (mw_nm (by omega) (fun a b z => by omega)) OA ob
    obtain ⟨Sc, Gc, oc, rc⟩ := mp_want (t := t + 7) (kd := 11) h8 mb (by omega) (by rw [ob.1 152 _ (by omega), keep1 _ _ (by omega) (by omega)]; exact s7) (by rw [ob.1 153 _ (by omega), keep1 _ _ (by omega) (by omega)]; exact s7') (by decide) (by decide)
    have OC : of_f (mp_W f m t k u c l H) S Sc := mp_of_f2 mw_want OB oc
    show ∃ g S', mp_go g S S' ∧ of_f (mp_W f m t k u c l H) S S' ∧ (match (ps_b (ps_take (tk_K T n) 11 q.2.2.2.1) fun i2 => ps_b (self sc i2 q.2.2.2.2) fun r => ps_b (ps_take (tk_K T n) 12 r.2.2.2.1) fun i3 => ps_b (self sc i3 r.2.2.2.2) fun s => .ok (tr_3 4 0 0 q.1 r.1 s.1, q.2.1 ++ (r.2.1 ++ s.2.1), 1 + q.2.2.1 + r.2.2.1 + s.2.2.1, s.2.2.2.1, s.2.2.2.2) : Except ps_E ps_O) with
      | .error e => mt_e T n e S' ∧ g + 2 ≤ 12 * (1501 - i)
      | .ok q => g + 2 ≤ 12 * (q.2.2.2.1 - i) ∧ ∃ l', l ≤ l' ∧ l' + i ≤ l + q.2.2.2.1 ∧ mh_g T n f q.2.2.2.2 t (k + 1) u (c + q.2.2.1) l' w q.2.2.2.1 S' ∧ ∃ y, S'.1 155 k = Int32.ofNat y ∧ mr_t T n f S' c (c + q.2.2.1) l l' m q.2.2.2.2 (d + 1) y q.1)
    cases q2 : ps_take (tk_K T n) 11 q.2.2.2.1 with
    | error e =>
      rw [q2] at rc
      exact ⟨ga + 1 + 1, Sc, mp_got (mp_got Ga Gb) Gc, OC, rc, by omega⟩
    | ok i2 =>
      rw [q2] at rc
      obtain ⟨-, t2, rfl, -⟩ := ps_take_ok q2
      have keep2 : ∀ a b, (a = 152 ∨ a = 153) → b < t + 9 → Sc.1 a b = S.1 a b := fun a b h1 h2 => by
        rw [oc.1 a b (by unfold nx_W mw_35; omega), ob.1 a b (by omega)]; exact keep1 a b h1 h2
      obtain ⟨gd, Sd, Gd, Od, Rd⟩ := hE sc (q.2.2.2.1 + 1) q.2.2.2.2 (t + 6) k u (c + 1 + q.2.2.1) l1 (w + 1) Sc rc (by rw [keep2 _ _ (by omega) (by omega)]; exact s6) (by omega) (by omega) (by omega) (by omega) (by omega) b6
      have OD : of_f (mp_W f m t k u c l H) S Sd := mp_of_f2 (mp_le p3 (by omega) (Nat.le_refl _) (Nat.le_refl _) (by omega) L1) OC Od
      have G3 := mp_got (mp_got (mp_got Ga Gb) Gc) Gd
      show ∃ g S', mp_go g S S' ∧ of_f (mp_W f m t k u c l H) S S' ∧ (match (ps_b (self sc (q.2.2.2.1 + 1) q.2.2.2.2) fun r => ps_b (ps_take (tk_K T n) 12 r.2.2.2.1) fun i3 => ps_b (self sc i3 r.2.2.2.2) fun s => .ok (tr_3 4 0 0 q.1 r.1 s.1, q.2.1 ++ (r.2.1 ++ s.2.1), 1 + q.2.2.1 + r.2.2.1 + s.2.2.1, s.2.2.2.1, s.2.2.2.2) : Except ps_E ps_O) with
      | .error e => mt_e T n e S' ∧ g + 2 ≤ 12 * (1501 - i)
      | .ok q => g + 2 ≤ 12 * (q.2.2.2.1 - i) ∧ ∃ l', l ≤ l' ∧ l' + i ≤ l + q.2.2.2.1 ∧ mh_g T n f q.2.2.2.2 t (k + 1) u (c + q.2.2.1) l' w q.2.2.2.1 S' ∧ ∃ y, S'.1 155 k = Int32.ofNat y ∧ mr_t T n f S' c (c + q.2.2.1) l l' m q.2.2.2.2 (d + 1) y q.1)
      cases q3 : self sc (q.2.2.2.1 + 1) q.2.2.2.2 with
      | error e =>
        rw [q3] at Rd
        exact ⟨_, Sd, G3, OD, Rd.1, by have := Rd.2; omega⟩
      | ok r =>
        rw [q3] at Rd
        obtain ⟨gc2, l2, L3, L4, Md, y2, Y2, D2⟩ := Rd
        obtain ⟨j1, j2, j3, j4, j5, j6, j7, -⟩ := hgd _ _ _ r q3
        have keep3 : ∀ a b, (a = 152 ∨ a = 153) → b < t + 6 → Sd.1 a b = S.1 a b := fun a b h1 h2 => by
          rw [Od.1 a b (mp_W_n (by omega))]; exact keep2 a b h1 (by omega)
        obtain ⟨Se, Ge, me, Ve, oe⟩ := me_part (t := t + 5) (A := 145) (s := 16) (Or.inr (Or.inl ⟨rfl, rfl⟩)) Md (by omega) (by omega) (show c < 15010 by omega) (by rw [keep3 _ _ (by omega) (by omega)]; exact s5) (by rw [keep3 _ _ (by omega) (by omega)]; exact s5') Y2
        have OE : of_f (mp_W f m t k u c l H) S Se := mp_of_f2 (mw_nm (by omega) (fun a b z => by omega)) OD oe
        obtain ⟨Sf, Gf, of', rf⟩ := mp_want (t := t + 4) (kd := 12) h8 me (by omega) (by rw [oe.1 152 _ (by omega), keep3 _ _ (by omega) (by omega)]; exact s4) (by rw [oe.1 153 _ (by omega), keep3 _ _ (by omega) (by omega)]; exact s4') (by decide) (by decide)
        have OF : of_f (mp_W f m t k u c l H) S Sf := mp_of_f2 mw_want OE of'
        have G5 := mp_got (mp_got G3 Ge) Gf
        show ∃ g S', mp_go g S S' ∧ of_f (mp_W f m t k u c l H) S S' ∧ (match (ps_b (ps_take (tk_K T n) 12 r.2.2.2.1) fun i3 => ps_b (self sc i3 r.2.2.2.2) fun s => .ok (tr_3 4 0 0 q.1 r.1 s.1, q.2.1 ++ (r.2.1 ++ s.2.1), 1 + q.2.2.1 + r.2.2.1 + s.2.2.1, s.2.2.2.1, s.2.2.2.2) : Except ps_E ps_O) with
      | .error e => mt_e T n e S' ∧ g + 2 ≤ 12 * (1501 - i)
      | .ok q => g + 2 ≤ 12 * (q.2.2.2.1 - i) ∧ ∃ l', l ≤ l' ∧ l' + i ≤ l + q.2.2.2.1 ∧ mh_g T n f q.2.2.2.2 t (k + 1) u (c + q.2.2.1) l' w q.2.2.2.1 S' ∧ ∃ y, S'.1 155 k = Int32.ofNat y ∧ mr_t T n f S' c (c + q.2.2.1) l l' m q.2.2.2.2 (d + 1) y q.1)
        cases q4 : ps_take (tk_K T n) 12 r.2.2.2.1 with
        | error e =>
          rw [q4] at rf
          exact ⟨_, Sf, G5, OF, rf, by omega⟩
        | ok i3 =>
          rw [q4] at rf
          obtain ⟨-, t9, rfl, -⟩ := ps_take_ok q4
          have keep4 : ∀ a b, (a = 152 ∨ a = 153) → b < t + 6 → Sf.1 a b = S.1 a b := fun a b h1 h2 => by
            rw [of'.1 a b (by unfold nx_W mw_35; omega), oe.1 a b (by omega)]; exact keep3 a b h1 h2
          obtain ⟨gg, Sg, Gg, Og, Rg⟩ := hE sc (r.2.2.2.1 + 1) r.2.2.2.2 (t + 3) k u (c + 1 + q.2.2.1 + r.2.2.1) l2 (w + 1) Sf rf (by rw [keep4 _ _ (by omega) (by omega)]; exact s3) (by omega) (by omega) (by omega) (by omega) (by omega) b6
          have OG : of_f (mp_W f m t k u c l H) S Sg := mp_of_f2 (mp_le (by omega) (by omega) (Nat.le_refl _) (Nat.le_refl _) (by omega) (by omega)) OF Og
          have G6 := mp_got G5 Gg
          show ∃ g S', mp_go g S S' ∧ of_f (mp_W f m t k u c l H) S S' ∧ (match (ps_b (self sc (r.2.2.2.1 + 1) r.2.2.2.2) fun s => .ok (tr_3 4 0 0 q.1 r.1 s.1, q.2.1 ++ (r.2.1 ++ s.2.1), 1 + q.2.2.1 + r.2.2.1 + s.2.2.1, s.2.2.2.1, s.2.2.2.2) : Except ps_E ps_O) with
      | .error e => mt_e T n e S' ∧ g + 2 ≤ 12 * (1501 - i)
      | .ok q => g + 2 ≤ 12 * (q.2.2.2.1 - i) ∧ ∃ l', l ≤ l' ∧ l' + i ≤ l + q.2.2.2.1 ∧ mh_g T n f q.2.2.2.2 t (k + 1) u (c + q.2.2.1) l' w q.2.2.2.1 S' ∧ ∃ y, S'.1 155 k = Int32.ofNat y ∧ mr_t T n f S' c (c + q.2.2.1) l l' m q.2.2.2.2 (d + 1) y q.1)
          cases q5 : self sc (r.2.2.2.1 + 1) r.2.2.2.2 with
          | error e =>
            rw [q5] at Rg
            exact ⟨_, Sg, G6, OG, Rg.1, by have := Rg.2; omega⟩
          | ok s =>
            rw [q5] at Rg
            obtain ⟨gc3, l3, L5, L6, Mg, y3, Y3, D3⟩ := Rg
            obtain ⟨k1, k2, k3, k4, k5, k6, k7, -⟩ := hgd _ _ _ s q5
            have keep5 : ∀ a b, (a = 152 ∨ a = 153) → b < t + 3 → Sg.1 a b = S.1 a b := fun a b h1 h2 => by
              rw [Og.1 a b (mp_W_n (by omega))]; exact keep4 a b h1 (by omega)
            obtain ⟨Sh, Gh, mh, Vh, oh⟩ := me_part (t := t + 2) (A := 146) (s := 17) (Or.inr (Or.inr ⟨rfl, rfl⟩)) Mg (by omega) (by omega) (show c < 15010 by omega) (by rw [keep5 _ _ (by omega) (by omega)]; exact s2) (by rw [keep5 _ _ (by omega) (by omega)]; exact s2') Y3
            have OH : of_f (mp_W f m t k u c l H) S Sh := mp_of_f2 (mw_nm (by omega) (fun a b z => by omega)) OG oh
            obtain ⟨Si, Gi, mi, Vi, oi⟩ := me_put (x := c) mh (by omega) (by omega) (by rw [oh.1 152 _ (by omega), keep5 _ _ (by omega) (by omega)]; exact s1) (by rw [oh.1 153 _ (by omega), keep5 _ _ (by omega) (by omega)]; exact s1') (by rw [oh.1 152 _ (by omega), keep5 _ _ (by omega) (by omega)]; exact s0)
            have OI : of_f (mp_W f m t k u c l H) S Si := mp_of_f2 (mw_nm (by omega) (fun a b z => by omega)) OH oi
            have hMi : mh_g T n f s.2.2.2.2 t (k + 1) u (c + (1 + q.2.2.1 + r.2.2.1 + s.2.2.1)) l3 w s.2.2.2.1 Si := by
              rw [show c + (1 + q.2.2.1 + r.2.2.1 + s.2.2.1) = c + 1 + q.2.2.1 + r.2.2.1 + s.2.2.1 by omega]
              exact mi
            refine ⟨_, Si, mp_got (mp_got G6 Gh) Gi, OI, ?_, l3, by omega, ?_, hMi, c, Vi, Nat.le_refl _, ?_, ?_⟩
            · show ga + 1 + 1 + gd + 1 + 1 + gg + 1 + 2 + 2 ≤ 12 * (s.2.2.2.1 - i)
              omega
            · show l3 + i ≤ l + s.2.2.2.1
              omega
            · show c < c + (1 + q.2.2.1 + r.2.2.1 + s.2.2.1)
              omega
            · have r144 : Si.1 144 c = Int32.ofNat y1 := by
                rw [oi.1 144 c (by omega), oh.1 144 c (by omega), Og.1 144 c (mp_W_n (by omega)), of'.1 144 c (by unfold nx_W mw_35; omega), oe.1 144 c (by omega), Od.1 144 c (mp_W_n (by omega)), oc.1 144 c (by unfold nx_W mw_35; omega)]
                exact Vb
              have r145 : Si.1 145 c = Int32.ofNat y2 := by
                rw [oi.1 145 c (by omega), oh.1 145 c (by omega), Og.1 145 c (mp_W_n (by omega)), of'.1 145 c (by unfold nx_W mw_35; omega)]
                exact Ve
              have r146 : Si.1 146 c = Int32.ofNat y3 := by
                rw [oi.1 146 c (by omega)]
                exact Vh
              have x143 : Si.1 143 c = 2 := by
                rw [oi.1 143 c (by omega), oh.1 143 c (by omega), Og.1 143 c (mp_W_n (by omega)), of'.1 143 c (by unfold nx_W mw_35; omega), oe.1 143 c (by omega), Od.1 143 c (mp_W_n (by omega)), oc.1 143 c (by unfold nx_W mw_35; omega), ob.1 143 c (by omega), Oa.1 143 c (mp_W_n (by omega))]
                exact h143
              have g1 : mr_g f (c + 1) (c + 1 + q.2.2.1) l l1 m q.2.2.2.2 Sa Sc := mr_g_t (mr_g_o ob (fun a x y1 y2 y3 y4 => by omega) (fun x y1 y2 => by omega) (fun x y1 y2 => by omega)) (mr_g_o oc (fun a x y1 y2 y3 y4 => by unfold nx_W mw_35; omega) (fun x y1 y2 => by unfold nx_W mw_35; omega) (fun x y1 y2 => by unfold nx_W mw_35; omega))
              have g2 : mr_g f (c + 1) (c + 1 + q.2.2.1) l l1 m q.2.2.2.2 Sc Sd := mr_g_W Od (Nat.le_refl _) (Nat.le_refl _) (Nat.le_refl _)
              have g3 : ∀ lo hi al ah nl nh, c + 1 ≤ lo → mr_g f lo hi al ah nl nh Sd Sf := fun lo hi al ah nl nh hh => mr_g_t (mr_g_o oe (fun a x y1 y2 y3 y4 => by omega) (fun x y1 y2 => by omega) (fun x y1 y2 => by omega)) (mr_g_o of' (fun a x y1 y2 y3 y4 => by unfold nx_W mw_35; omega) (fun x y1 y2 => by unfold nx_W mw_35; omega) (fun x y1 y2 => by unfold nx_W mw_35; omega))
              have g4 : ∀ lo hi al ah nl nh, hi ≤ c + 1 + q.2.2.1 + r.2.2.1 → ah ≤ l2 → nh ≤ r.2.2.2.2 → mr_g f lo hi al ah nl nh Sf Sg := fun lo hi al ah nl nh h1 h2 h3 => mr_g_W Og h1 h2 h3
              have g5 : ∀ lo hi al ah nl nh, c + 1 ≤ lo → mr_g f lo hi al ah nl nh Sg Si := fun lo hi al ah nl nh hh => mr_g_t (mr_g_o oh (fun a x y1 y2 y3 y4 => by omega) (fun x y1 y2 => by omega) (fun x y1 y2 => by omega)) (mr_g_o oi (fun a x y1 y2 y3 y4 => by omega) (fun x y1 y2 => by omega) (fun x y1 y2 => by omega))
              refine Or.inr (Or.inr (Or.inr (Or.inl ⟨rfl, rfl, x143, y1, y2, y3, c + 1, c + 1 + q.2.2.1, c + 1 + q.2.2.1 + r.2.2.1, c + 1 + q.2.2.1 + r.2.2.1 + s.2.2.1, r144, r145, r146, Nat.lt_succ_self c, ?_, ?_, ?_, by show c + 1 + q.2.2.1 + r.2.2.1 + s.2.2.1 ≤ c + (1 + q.2.2.1 + r.2.2.1 + s.2.2.1); omega⟩)))
              · exact mr_t_m (Nat.le_refl _) (Nat.le_refl _) (Nat.le_refl _) (by omega) (Nat.le_refl _) (show q.2.2.2.2 ≤ s.2.2.2.2 by omega) (mr_g_t (mr_g_t g1 g2) (mr_g_t (g3 _ _ _ _ _ _ (Nat.le_refl _)) (mr_g_t (g4 _ _ _ _ _ _ (by omega) (by omega) (by omega)) (g5 _ _ _ _ _ _ (Nat.le_refl _))))) _ _ _ D1
              · exact mr_t_m (Nat.le_refl _) (Nat.le_refl _) L1 (by omega) p3 (show r.2.2.2.2 ≤ s.2.2.2.2 by omega) (mr_g_t (g3 _ _ _ _ _ _ (by omega)) (mr_g_t (g4 _ _ _ _ _ _ (Nat.le_refl _) (Nat.le_refl _) (Nat.le_refl _)) (g5 _ _ _ _ _ _ (by omega)))) _ _ _ D2
              · exact mr_t_m (Nat.le_refl _) (Nat.le_refl _) (by omega) (Nat.le_refl _) (by omega) (Nat.le_refl _) (g5 _ _ _ _ _ _ (by omega)) _ _ _ D3
end Mi
end
/-! part 89 -/
section
/-! The reference: any E. -/
section Mx
variable {T : Nat → Int32} {H n f m t k u c l w i : Nat} {S S' : wd_S}
theorem mx_w (h : mh_g T n f m t k u c l w i S) : mh_g T n f m t k u c l (w + 1) i (wd_i S 135 38 (Int32.ofNat (w + 1))) := by
  have hne : ∀ b, b ≠ 38 → (wd_i S 135 38 (Int32.ofNat (w + 1))).1 135 b = S.1 135 b := fun b hb => fr_ne (by omega)
  refine mh_u h (funext (fun b => fr_ne (by omega))) (fun k hk => hne k (by omega)) rfl (fr_ne (by omega)) ?_ ?_ ?_ ?_ ?_ fr_eq
  · rw [hne 35 (by decide)]; exact h.2.2.2.2.2.1
  · rw [hne 37 (by decide)]; exact h.2.2.2.2.2.2.1
  · rw [hne 30 (by decide)]; exact h.2.2.2.2.2.2.2.1
  · rw [hne 27 (by decide)]; exact h.2.2.2.2.2.2.2.2.1
  · rw [hne 28 (by decide)]; exact h.2.2.2.2.2.2.2.2.2.1
theorem mx_ex (h8 : n ≤ 8000) : ∀ (r : Nat) (sc : List (Int64 × Nat)), mp_C T n f H r 0 0 (4 * r) 1 4 (ps_ex (tk_K T n) (tk_V T n) r sc) := by
  intro r
  induction r with
  | zero =>
    intro sc i m t k u c l w S hm hs b1 b2 b3 b4 b5 b6
    have hp := mh_pop hm
    have hi := hm.1.2.2.2.2.1
    have OP : of_f (mp_W f m t k u c l H) S (wd_i S 135 35 (Int32.ofNat t)) := of_i (mw_35_W _ _ ⟨rfl, rfl⟩) of_refl
    have hloop : ∀ F, fn_Mo_parse_21 (F + 1) S = wd_d (fn_Mo_onE (wd_i S 135 35 (Int32.ofNat t))) (fn_Mo_parse_21 F) := fun F => by
      rw [mp_pop hm (by omega) F, hs, if_neg (by decide), if_pos rfl]
    generalize wd_i S 135 35 (Int32.ofNat t) = S0 at hp OP hloop
    have hw : w = 24 := by omega
    show ∃ g S', mp_go g S S' ∧ mp_R T n f H m t k u c l w 0 1 i S (if tk_K T n i = 3 ∨ tk_K T n i = 4 ∨ tk_K T n i = 7 ∨ tk_K T n i = 1 ∨ tk_K T n i = 2 ∨ tk_K T n i = 15 then .error (6, i) else .error (2, i)) g S'
    by_cases hb : tk_K T n i = 3 ∨ tk_K T n i = 4 ∨ tk_K T n i = 7 ∨ tk_K T n i = 1 ∨ tk_K T n i = 2 ∨ tk_K T n i = 15
    · obtain ⟨S2, e2, o2, r2⟩ := mt_stop (x := 6) (by decide) hp.1
      have hcode : fn_Mo_onE S0 = some S2 := by
        unfold fn_Mo_onE
        rw [me_begins hp.1, wd_c_s, if_pos hb, if_neg (by decide), if_pos (by rw [hp.2.2.2.2.2.2.2.2.2.2, hw]; rfl), e2, wd_d_s]
      rw [if_pos hb]
      exact ⟨1, S2, mp_g1 hloop hcode, of_trans OP (of_mono nx_W_W o2), r2, by omega⟩
    · obtain ⟨S2, e2, o2, r2⟩ := mt_stop (x := 2) (by decide) hp.1
      have hcode : fn_Mo_onE S0 = some S2 := by
        unfold fn_Mo_onE
        rw [me_begins hp.1, wd_c_s, if_neg hb, if_pos rfl, e2, wd_d_s]
      rw [if_neg hb]
      exact ⟨1, S2, mp_g1 hloop hcode, of_trans OP (of_mono nx_W_W o2), r2, by omega⟩
  | succ r ih =>
    intro sc
    have hgd : ∀ sc i m q, ps_ex (tk_K T n) (tk_V T n) r sc i m = .ok q → ps_good (tk_K T n) (4 * r) i m q := fun sc i m q hq => ps_ex_good r sc i m q hq
    have h52 := md_atom (f := f) (sc := sc) h8 (ih sc) hgd
    have h51 := ma_product h8 h52 (fun i m q hq => ps_atom_good hgd hq) (by decide) (by decide)
    have h50 := ma_sum h8 h51 (fun i m q hq => ps_two_good (fun i m q hq => ps_atom_good hgd hq) hq) (by decide) (by decide)
    intro i m t k u c l w S hm hs b1 b2 b3 b4 b5 b6
    have hp := mh_pop hm
    have hi := hm.1.2.2.2.2.1
    have OP : of_f (mp_W f m t k u c l H) S (wd_i S 135 35 (Int32.ofNat t)) := of_i (mw_35_W _ _ ⟨rfl, rfl⟩) of_refl
    have hloop : ∀ F, fn_Mo_parse_21 (F + 1) S = wd_d (fn_Mo_onE (wd_i S 135 35 (Int32.ofNat t))) (fn_Mo_parse_21 F) := fun F => by
      rw [mp_pop hm (by omega) F, hs, if_neg (by decide), if_pos rfl]
    generalize wd_i S 135 35 (Int32.ofNat t) = S0 at hp OP hloop
    have e38 := hp.2.2.2.2.2.2.2.2.2.2
    have k3 : S0.1 135 4 = 5 ↔ tk_K T n i = 3 := ma_tok (kk := 3) hp.1 (by decide)
    have k4 : S0.1 135 4 = 2 ↔ tk_K T n i = 4 := ma_tok (kk := 4) hp.1 (by decide)
    have h24 : ¬Int32.ofNat w = 24 := fun z => by have := (im_eq (m := w) (n := 24) (by omega) (by omega)).mp z; omega
    obtain ⟨S1, f1, m1, x1, o1⟩ := mh_push (xs := []) (x := 5) (y := 0) (mx_w hp) (by show t + 0 < 4000; omega) (fun j hj => absurd hj (Nat.not_lt_zero _))
    have OW : of_f (mp_W f m t k u c l H) S (wd_i S0 135 38 (Int32.ofNat (w + 1))) := mp_of_f2 (W := fun a b => a = 135 ∧ b = 38) (mw_nm (by omega) (fun a b z => by omega)) OP (of_i ⟨rfl, rfl⟩ of_refl)
    have O1 : of_f (mp_W f m t k u c l H) S S1 := mp_of_f2 (mw_p_le (by omega)) OW o1
    have t4 : S1.1 135 4 = S0.1 135 4 := by rw [o1.1 135 4 (by unfold mw_p; omega), fr_ne (by omega)]
    show ∃ g S', mp_go g S S' ∧ mp_R T n f H m t k u c l w (4 * (r + 1)) 1 i S (if tk_K T n i = 3 then ps_let (tk_K T n) (tk_V T n) (ps_ex (tk_K T n) (tk_V T n) r) sc i m else if tk_K T n i = 4 then ps_if (tk_K T n) (ps_ex (tk_K T n) (tk_V T n) r) sc i m else ps_cmp (tk_K T n) (tk_V T n) (ps_ex (tk_K T n) (tk_V T n) r) sc i m) g S'
    by_cases c3 : tk_K T n i = 3
    · rw [if_pos c3]
      have hb : tk_K T n i = 3 ∨ tk_K T n i = 4 ∨ tk_K T n i = 7 ∨ tk_K T n i = 1 ∨ tk_K T n i = 2 ∨ tk_K T n i = 15 := Or.inl c3
      obtain ⟨S2, f2, m2, a2, bb2, o2⟩ := mh_node (x := 3) (y := S1.1 135 5) m1 (by omega)
      have x2 := mh_s_o (S := S1) (S' := S2) (fun b _ => ⟨o2.1 152 b (by unfold mw_n; omega), o2.1 153 b (by unfold mw_n; omega)⟩) x1
      obtain ⟨S3, f3, m3, x3, o3⟩ := mh_push (x := 18) (y := Int32.ofNat c) m2 (by show t + 1 < 4000; omega) x2
      obtain ⟨S4, f4, m4, x4, o4⟩ := mh_push (x := 16) (y := Int32.ofNat c) m3 (by show t + 2 < 4000; omega) x3
      obtain ⟨S5, f5, m5, x5, o5⟩ := mh_push (x := 4) (y := 0) m4 (by show t + 3 < 4000; omega) x4
      obtain ⟨S6, f6, m6, x6, o6⟩ := mh_push (x := 1) (y := 6) m5 (by show t + 4 < 4000; omega) x5
      obtain ⟨S7, f7, m7, x7, o7⟩ := mh_push (x := 15) (y := Int32.ofNat c) m6 (by show t + 5 < 4000; omega) x6
      obtain ⟨S8, f8, m8, x8, o8⟩ := mh_push (x := 4) (y := 0) m7 (by show t + 6 < 4000; omega) x7
      obtain ⟨S9, f9, m9, x9, o9⟩ := mh_push (x := 1) (y := 13) m8 (by show t + 7 < 4000; omega) x8
      obtain ⟨Sa, fa, ma, xa, oa⟩ := mh_push (x := 13) (y := Int32.ofNat c) m9 (by show t + 8 < 4000; omega) x9
      obtain ⟨Sb, fb, ob, rb⟩ := mt_pass h8 ma.1 (by rw [c3]; decide)
      rw [c3] at rb
      have hcode : fn_Mo_onE S0 = some Sb := by
        unfold fn_Mo_onE fn_Mo_onE_229
        rw [me_begins hp.1, wd_c_s, if_pos hb, if_neg (by decide), e38, if_neg h24]
        simp only [wd_b]
        rw [im_s, f1, wd_d_s, if_pos (by rw [t4]; exact k3.mpr c3), f2, wd_c_s, f3, wd_d_s, f4, wd_d_s, f5, wd_d_s, f6, wd_d_s, f7, wd_d_s, f8, wd_d_s, f9, wd_d_s, fa, wd_d_s, fb, wd_d_s]
      have OB : of_f (mp_W f m t k u c l H) S Sb := mp_of_f2 nx_W_W (mp_of_f2 (mw_p_le (by show t ≤ t + 8; omega)) (mp_of_f2 (mw_p_le (by show t ≤ t + 7; omega)) (mp_of_f2 (mw_p_le (by show t ≤ t + 6; omega)) (mp_of_f2 (mw_p_le (by show t ≤ t + 5; omega)) (mp_of_f2 (mw_p_le (by show t ≤ t + 4; omega)) (mp_of_f2 (mw_p_le (by show t ≤ t + 3; omega)) (mp_of_f2 (mw_p_le (by show t ≤ t + 2; omega)) (mp_of_f2 (mw_p_le (by show t ≤ t + 1; omega)) (mp_of_f2 (mw_nm (by omega) (fun a b z => by unfold mw_n at z; omega)) O1 o2) o3) o4) o5) o6) o7) o8) o9) oa) ob
      have G1 := mp_g1 hloop hcode
      unfold ps_let
      cases q1 : ps_take (tk_K T n) 3 i with
      | error e =>
        rw [q1] at rb
        exact ⟨1, Sb, G1, OB, rb, by omega⟩
      | ok i1 =>
        rw [q1] at rb
        obtain ⟨-, u2, rfl, -⟩ := ps_take_ok q1
        have mb := mh_nx ob ma rb
        have xb : mh_s t [(5, 0), (18, Int32.ofNat c), (16, Int32.ofNat c), (4, 0), (1, 6), (15, Int32.ofNat c), (4, 0), (1, 13), (13, Int32.ofNat c)] Sb := mh_s_o (S := Sa) (fun b _ => ⟨ob.1 152 b (by unfold nx_W; omega), ob.1 153 b (by unfold nx_W; omega)⟩) xa
        obtain ⟨g, S', G2, O2, R2⟩ := mf_let (sc := sc) h8 ih hgd mb xb (by omega) (by omega) b3 b4 b5 (by omega) u2 (by rw [ob.1 143 c (by unfold nx_W; omega), oa.1 143 c (by unfold mw_p; omega), o9.1 143 c (by unfold mw_p; omega), o8.1 143 c (by unfold mw_p; omega), o7.1 143 c (by unfold mw_p; omega), o6.1 143 c (by unfold mw_p; omega), o5.1 143 c (by unfold mw_p; omega), o4.1 143 c (by unfold mw_p; omega), o3.1 143 c (by unfold mw_p; omega)]; exact a2)
        refine ⟨1 + g, S', mp_got G1 G2, of_trans OB O2, ?_⟩
        show (match (ps_b (ps_new (tk_K T n) false (decide (16 ≤ m)) (i + 1)) fun i2 => ps_b (ps_take (tk_K T n) 14 i2) fun i3 => ps_b (ps_ex (tk_K T n) (tk_V T n) r sc i3 (m + 1)) fun q => ps_b (ps_take (tk_K T n) 13 q.2.2.2.1) fun i4 => ps_b (ps_ex (tk_K T n) (tk_V T n) r ((tk_V T n (i + 1), m) :: sc) i4 q.2.2.2.2) fun r => .ok (tr_2 3 (Int32.ofNat m) (i + 1) q.1 r.1, q.2.1 ++ r.2.1, 1 + q.2.2.1 + r.2.2.1, r.2.2.2.1, r.2.2.2.2) : Except ps_E ps_O) with
          | .error e => mt_e T n e S' ∧ 1 + g + 1 ≤ 12 * (1501 - i)
          | .ok q => 1 + g + 1 ≤ 12 * (q.2.2.2.1 - i) ∧ ∃ l', l ≤ l' ∧ l' + i ≤ l + q.2.2.2.1 ∧ mh_g T n f q.2.2.2.2 t (k + 1) u (c + q.2.2.1) l' w q.2.2.2.1 S' ∧ ∃ y, S'.1 155 k = Int32.ofNat y ∧ mr_t T n f S' c (c + q.2.2.1) l l' m q.2.2.2.2 (4 * (r + 1)) y q.1)
        generalize (ps_b (ps_new (tk_K T n) false (decide (16 ≤ m)) (i + 1)) fun i2 => ps_b (ps_take (tk_K T n) 14 i2) fun i3 => ps_b (ps_ex (tk_K T n) (tk_V T n) r sc i3 (m + 1)) fun q => ps_b (ps_take (tk_K T n) 13 q.2.2.2.1) fun i4 => ps_b (ps_ex (tk_K T n) (tk_V T n) r ((tk_V T n (i + 1), m) :: sc) i4 q.2.2.2.2) fun r => .ok (tr_2 3 (Int32.ofNat m) (i + 1) q.1 r.1, q.2.1 ++ r.2.1, 1 + q.2.2.1 + r.2.2.1, r.2.2.2.1, r.2.2.2.2) : Except ps_E ps_O) = rr at R2 ⊢
        cases rr with
        | error e => exact ⟨R2.1, by have := R2.2; omega⟩
        | ok v =>
          obtain ⟨z1, l', z2, z3, z4, y, z5, z6⟩ := R2
          exact ⟨by omega, l', z2, z3, z4, y, z5, mr_t_le z6 (by omega)⟩
    · rw [if_neg c3]
      by_cases c4 : tk_K T n i = 4
      · rw [if_pos c4]
        have hb : tk_K T n i = 3 ∨ tk_K T n i = 4 ∨ tk_K T n i = 7 ∨ tk_K T n i = 1 ∨ tk_K T n i = 2 ∨ tk_K T n i = 15 := Or.inr (Or.inl c4)
        obtain ⟨S2, f2, m2, a2, bb2, o2⟩ := mh_node (x := 2) (y := S1.1 135 5) m1 (by omega)
        have x2 := mh_s_o (S := S1) (S' := S2) (fun b _ => ⟨o2.1 152 b (by unfold mw_n; omega), o2.1 153 b (by unfold mw_n; omega)⟩) x1
        obtain ⟨S3, f3, m3, x3, o3⟩ := mh_push (x := 18) (y := Int32.ofNat c) m2 (by show t + 1 < 4000; omega) x2
        obtain ⟨S4, f4, m4, x4, o4⟩ := mh_push (x := 17) (y := Int32.ofNat c) m3 (by show t + 2 < 4000; omega) x3
        obtain ⟨S5, f5, m5, x5, o5⟩ := mh_push (x := 4) (y := 0) m4 (by show t + 3 < 4000; omega) x4
        obtain ⟨S6, f6, m6, x6, o6⟩ := mh_push (x := 1) (y := 4) m5 (by show t + 4 < 4000; omega) x5
        obtain ⟨S7, f7, m7, x7, o7⟩ := mh_push (x := 16) (y := Int32.ofNat c) m6 (by show t + 5 < 4000; omega) x6
        obtain ⟨S8, f8, m8, x8, o8⟩ := mh_push (x := 4) (y := 0) m7 (by show t + 6 < 4000; omega) x7
        obtain ⟨S9, f9, m9, x9, o9⟩ := mh_push (x := 1) (y := 3) m8 (by show t + 7 < 4000; omega) x8
        obtain ⟨Sa, fa, ma, xa, oa⟩ := mh_push (x := 15) (y := Int32.ofNat c) m9 (by show t + 8 < 4000; omega) x9
        obtain ⟨Sz, fz, mz, xz, oz⟩ := mh_push (x := 4) (y := 0) ma (by show t + 9 < 4000; omega) xa
        obtain ⟨Sb, fb, ob, rb⟩ := mt_pass h8 mz.1 (by rw [c4]; decide)
        rw [c4] at rb
        have hcode : fn_Mo_onE S0 = some Sb := by
          unfold fn_Mo_onE fn_Mo_onE_229
          rw [me_begins hp.1, wd_c_s, if_pos hb, if_neg (by decide), e38, if_neg h24]
          simp only [wd_b]
          rw [im_s, f1, wd_d_s, if_neg (by rw [t4]; exact fun z => c3 (k3.mp z)), if_pos (by rw [t4]; exact k4.mpr c4), f2, wd_c_s, f3, wd_d_s, f4, wd_d_s, f5, wd_d_s, f6, wd_d_s, f7, wd_d_s, f8, wd_d_s, f9, wd_d_s, fa, wd_d_s, fz, wd_d_s, fb, wd_d_s]
        have OB : of_f (mp_W f m t k u c l H) S Sb := mp_of_f2 nx_W_W (mp_of_f2 (mw_p_le (by show t ≤ t + 9; omega)) (mp_of_f2 (mw_p_le (by show t ≤ t + 8; omega)) (mp_of_f2 (mw_p_le (by show t ≤ t + 7; omega)) (mp_of_f2 (mw_p_le (by show t ≤ t + 6; omega)) (mp_of_f2 (mw_p_le (by show t ≤ t + 5; omega)) (mp_of_f2 (mw_p_le (by show t ≤ t + 4; omega)) (mp_of_f2 (mw_p_le (by show t ≤ t + 3; omega)) (mp_of_f2 (mw_p_le (by show t ≤ t + 2; omega)) (mp_of_f2 (mw_p_le (by show t ≤ t + 1; omega)) (mp_of_f2 (mw_nm (by omega) (fun a b z => by unfold mw_n at z; omega)) O1 o2) o3) o4) o5) o6) o7) o8) o9) oa) oz) ob
        have G1 := mp_g1 hloop hcode
        unfold ps_if
        cases q1 : ps_take (tk_K T n) 4 i with
        | error e =>
          rw [q1] at rb
          exact ⟨1, Sb, G1, OB, rb, by omega⟩
        | ok i1 =>
          rw [q1] at rb
          obtain ⟨-, u2, rfl, -⟩ := ps_take_ok q1
          have mb := mh_nx ob mz rb
          have xb : mh_s t [(5, 0), (18, Int32.ofNat c), (17, Int32.ofNat c), (4, 0), (1, 4), (16, Int32.ofNat c), (4, 0), (1, 3), (15, Int32.ofNat c), (4, 0)] Sb := mh_s_o (S := Sz) (fun b _ => ⟨ob.1 152 b (by unfold nx_W; omega), ob.1 153 b (by unfold nx_W; omega)⟩) xz
          obtain ⟨g, S', G2, O2, R2⟩ := mi_if (sc := sc) h8 ih hgd mb xb (by omega) (by omega) b3 b4 b5 (by omega) u2 (by rw [ob.1 143 c (by unfold nx_W; omega), oz.1 143 c (by unfold mw_p; omega), oa.1 143 c (by unfold mw_p; omega), o9.1 143 c (by unfold mw_p; omega), o8.1 143 c (by unfold mw_p; omega), o7.1 143 c (by unfold mw_p; omega), o6.1 143 c (by unfold mw_p; omega), o5.1 143 c (by unfold mw_p; omega), o4.1 143 c (by unfold mw_p; omega), o3.1 143 c (by unfold mw_p; omega)]; exact a2)
          refine ⟨1 + g, S', mp_got G1 G2, of_trans OB O2, ?_⟩
          show (match (ps_b (ps_ex (tk_K T n) (tk_V T n) r sc (i + 1) m) fun q => ps_b (ps_take (tk_K T n) 11 q.2.2.2.1) fun i2 => ps_b (ps_ex (tk_K T n) (tk_V T n) r sc i2 q.2.2.2.2) fun r' => ps_b (ps_take (tk_K T n) 12 r'.2.2.2.1) fun i3 => ps_b (ps_ex (tk_K T n) (tk_V T n) r sc i3 r'.2.2.2.2) fun s => .ok (tr_3 4 0 0 q.1 r'.1 s.1, q.2.1 ++ (r'.2.1 ++ s.2.1), 1 + q.2.2.1 + r'.2.2.1 + s.2.2.1, s.2.2.2.1, s.2.2.2.2) : Except ps_E ps_O) with
            | .error e => mt_e T n e S' ∧ 1 + g + 1 ≤ 12 * (1501 - i)
            | .ok q => 1 + g + 1 ≤ 12 * (q.2.2.2.1 - i) ∧ ∃ l', l ≤ l' ∧ l' + i ≤ l + q.2.2.2.1 ∧ mh_g T n f q.2.2.2.2 t (k + 1) u (c + q.2.2.1) l' w q.2.2.2.1 S' ∧ ∃ y, S'.1 155 k = Int32.ofNat y ∧ mr_t T n f S' c (c + q.2.2.1) l l' m q.2.2.2.2 (4 * (r + 1)) y q.1)
          generalize (ps_b (ps_ex (tk_K T n) (tk_V T n) r sc (i + 1) m) fun q => ps_b (ps_take (tk_K T n) 11 q.2.2.2.1) fun i2 => ps_b (ps_ex (tk_K T n) (tk_V T n) r sc i2 q.2.2.2.2) fun r' => ps_b (ps_take (tk_K T n) 12 r'.2.2.2.1) fun i3 => ps_b (ps_ex (tk_K T n) (tk_V T n) r sc i3 r'.2.2.2.2) fun s => .ok (tr_3 4 0 0 q.1 r'.1 s.1, q.2.1 ++ (r'.2.1 ++ s.2.1), 1 + q.2.2.1 + r'.2.2.1 + s.2.2.1, s.2.2.2.1, s.2.2.2.2) : Except ps_E ps_O) = rr at R2 ⊢
          cases rr with
          | error e => exact ⟨R2.1, by have := R2.2; omega⟩
          | ok v =>
            obtain ⟨z1, l', z2, z3, z4, y, z5, z6⟩ := R2
            exact ⟨by omega, l', z2, z3, z4, y, z5, mr_t_le z6 (by omega)⟩
      · rw [if_neg c4]
        by_cases hb : tk_K T n i = 3 ∨ tk_K T n i = 4 ∨ tk_K T n i = 7 ∨ tk_K T n i = 1 ∨ tk_K T n i = 2 ∨ tk_K T n i = 15
        · obtain ⟨S2, f2, m2, x2, o2⟩ := mh_push (x := 11) (y := 0) m1 (by show t + 1 < 4000; omega) x1
          obtain ⟨S3, f3, m3, x3, o3⟩ := mh_push (x := 6) (y := 0) m2 (by show t + 2 < 4000; omega) x2
          have hcode : fn_Mo_onE S0 = some S3 := by
            unfold fn_Mo_onE fn_Mo_onE_229
            rw [me_begins hp.1, wd_c_s, if_pos hb, if_neg (by decide), e38, if_neg h24]
            simp only [wd_b]
            rw [im_s, f1, wd_d_s, if_neg (by rw [t4]; exact fun z => c3 (k3.mp z)), if_neg (by rw [t4]; exact fun z => c4 (k4.mp z)), f2, wd_d_s, f3, wd_d_s]
          have O3 : of_f (mp_W f m t k u c l H) S S3 := mp_of_f2 (mw_p_le (by show t ≤ t + 2; omega)) (mp_of_f2 (mw_p_le (by show t ≤ t + 1; omega)) O1 o2) o3
          have G1 := mp_g1 hloop hcode
          have v0 : S3.1 152 t = 5 := (x3 0 (show 0 < 3 by decide)).1
          have hs3 : mh_s (t + 1) [(11, 0), (6, 0)] S3 := fun j hj => by
            cases j with
            | zero => exact x3 1 (show 1 < 3 by decide)
            | succ j =>
              cases j with
              | zero => exact x3 2 (show 2 < 3 by decide)
              | succ j => exact absurd hj (by show ¬j + 1 + 1 < 2; omega)
          obtain ⟨g, S4, G2, O4, R4⟩ := mp_two (t := t + 1) h8 ma_Y11 (by decide) h50 (fun i m q hq => ps_two_good (fun i m q hq => ps_two_good (fun i m q hq => ps_atom_good hgd hq) hq) hq) (by decide) m3 hs3 (by omega) (by omega) b3 b4 b5 (by omega)
          have O4' : of_f (mp_W f m t k u c l H) S S4 := mp_of_f2 (mp_le (Nat.le_refl _) (Nat.le_succ _) (Nat.le_refl _) (Nat.le_refl _) (Nat.le_refl _) (Nat.le_refl _)) O3 O4
          show ∃ g S', mp_go g S S' ∧ mp_R T n f H m t k u c l w (4 * (r + 1)) 1 i S (ps_two (tk_K T n) (fun k => k == 9 || k == 10) (ps_sum (tk_K T n) (tk_V T n) (ps_ex (tk_K T n) (tk_V T n) r) sc) i m) g S'
          have R4 : (match ps_two (tk_K T n) (fun k => k == 9 || k == 10) (ps_sum (tk_K T n) (tk_V T n) (ps_ex (tk_K T n) (tk_V T n) r) sc) i m with
            | .error e => mt_e T n e S4 ∧ g + (9 - 2 - 2 - 1) ≤ 12 * (1501 - i)
            | .ok q => g + (9 - 2 - 2 - 1) ≤ 12 * (q.2.2.2.1 - i) ∧ ∃ l', l ≤ l' ∧ l' + i ≤ l + q.2.2.2.1 ∧ mh_g T n f q.2.2.2.2 (t + 1) (k + 1) u (c + q.2.2.1) l' (w + 1) q.2.2.2.1 S4 ∧ ∃ y, S4.1 155 k = Int32.ofNat y ∧ mr_t T n f S4 c (c + q.2.2.1) l l' m q.2.2.2.2 (4 * r + 1 + 1 + 1 + 1) y q.1) := R4
          cases q1 : ps_two (tk_K T n) (fun k => k == 9 || k == 10) (ps_sum (tk_K T n) (tk_V T n) (ps_ex (tk_K T n) (tk_V T n) r) sc) i m with
          | error e =>
            rw [q1] at R4
            exact ⟨1 + g, S4, mp_got G1 G2, O4', R4.1, by have := R4.2; omega⟩
          | ok v =>
            rw [q1] at R4
            obtain ⟨z1, l', z2, z3, z4, y, z5, z6⟩ := R4
            obtain ⟨S5, G3, m5, o5⟩ := me_end z4 (by omega) (by rw [O4.1 152 t (mp_W_n (by omega))]; exact v0)
            refine ⟨1 + g + 1, S5, mp_got (mp_got G1 G2) G3, mp_of_f2 (mw_nm (by omega) (fun a b z => by omega)) O4' o5, by omega, l', z2, z3, m5, y, ?_, ?_⟩
            · rw [o5.1 155 k (by omega)]; exact z5
            · exact mr_t_le (mr_t_m (Nat.le_refl _) (Nat.le_refl _) (Nat.le_refl _) (Nat.le_refl _) (Nat.le_refl _) (Nat.le_refl _) (mr_g_o o5 (fun a x y1 y2 y3 y4 => by omega) (fun x y1 y2 => by omega) (fun x y1 y2 => by omega)) _ _ _ z6) (by omega)
        · obtain ⟨S2, e2, o2, r2⟩ := mt_stop (x := 2) (by decide) hp.1
          have hcode : fn_Mo_onE S0 = some S2 := by
            unfold fn_Mo_onE
            rw [me_begins hp.1, wd_c_s, if_neg hb, if_pos rfl, e2, wd_d_s]
          have hr : ps_cmp (tk_K T n) (tk_V T n) (ps_ex (tk_K T n) (tk_V T n) r) sc i m = .error (2, i) := by
            unfold ps_cmp ps_sum ps_product ps_two ps_atom
            rw [if_neg (fun z => hb (Or.inr (Or.inr (Or.inl z)))), if_neg (fun z => hb (Or.inr (Or.inr (Or.inr (Or.inl z))))), if_neg (fun z => hb (Or.inr (Or.inr (Or.inr (Or.inr (Or.inl z)))))), if_neg (fun z => hb (Or.inr (Or.inr (Or.inr (Or.inr (Or.inr z))))))]
            rfl
          rw [hr]
          exact ⟨1, S2, mp_g1 hloop hcode, of_trans OP (of_mono nx_W_W o2), r2, by omega⟩
end Mx
end
/-! part 90 -/
section
/-! Where a tree's names lead, and what is to be looked up in it. -/
def rs_b (V : Nat → Int64) (R : List (Int64 × Nat) → tr_T → List (Nat × Nat) → Prop) (sc : List (Int64 × Nat)) (t : tr_T) (M : List (Nat × Nat)) : Prop := (tr_k t = 1 ∧ M = []) ∨ (tr_k t = 2 ∧ ((∃ s, ps_look (V (tr_o t)) sc = some s ∧ tr_v t = Int32.ofNat s ∧ M = []) ∨ (ps_look (V (tr_o t)) sc = none ∧ M = [(tr_o t, 0)]))) ∨ (tr_k t = 3 ∧ sc.length < 16 ∧ ∃ s M1 M2, s < 16 ∧ tr_v t = Int32.ofNat s ∧ M = M1 ++ M2 ∧ R sc (tr_sub t 0) M1 ∧ R ((V (tr_o t), s) :: sc) (tr_sub t 1) M2) ∨ (tr_k t = 4 ∧ ∃ M1 M2 M3, M = M1 ++ (M2 ++ M3) ∧ R sc (tr_sub t 0) M1 ∧ R sc (tr_sub t 1) M2 ∧ R sc (tr_sub t 2) M3) ∨ (tr_k t = 5 ∧ ∃ Ms : List (List (Nat × Nat)), Ms.length = tr_a t ∧ M = (tr_o t, tr_a t + 1) :: Ms.flatten ∧ ∀ j, (hj : j < Ms.length) → R sc (tr_sub t j) Ms[j]) ∨ ((tr_k t = 6 ∨ tr_k t = 7 ∨ tr_k t = 8 ∨ tr_k t = 9 ∨ tr_k t = 10) ∧ ∃ M1 M2, M = M1 ++ M2 ∧ R sc (tr_sub t 0) M1 ∧ R sc (tr_sub t 1) M2)
theorem rs_b_m {V : Nat → Int64} {R R' : List (Int64 × Nat) → tr_T → List (Nat × Nat) → Prop} {sc : List (Int64 × Nat)} {t : tr_T} {M : List (Nat × Nat)} (hR : ∀ sc t M, R sc t M → R' sc t M) (h : rs_b V R sc t M) : rs_b V R' sc t M := by
  rcases h with h | h | h | h | h | h
  · exact Or.inl h
  · exact Or.inr (Or.inl h)
  · obtain ⟨h1, h2, s, M1, M2, h7, h3, h4, h5, h6⟩ := h
    exact Or.inr (Or.inr (Or.inl ⟨h1, h2, s, M1, M2, h7, h3, h4, hR _ _ _ h5, hR _ _ _ h6⟩))
  · obtain ⟨h1, M1, M2, M3, h2, h3, h4, h5⟩ := h
    exact Or.inr (Or.inr (Or.inr (Or.inl ⟨h1, M1, M2, M3, h2, hR _ _ _ h3, hR _ _ _ h4, hR _ _ _ h5⟩)))
  · obtain ⟨h1, Ms, h2, h3, h4⟩ := h
    exact Or.inr (Or.inr (Or.inr (Or.inr (Or.inl ⟨h1, Ms, h2, h3, fun j hj => hR _ _ _ (h4 j hj)⟩))))
  · obtain ⟨h1, M1, M2, h2, h3, h4⟩ := h
    exact Or.inr (Or.inr (Or.inr (Or.inr (Or.inr ⟨h1, M1, M2, h2, hR _ _ _ h3, hR _ _ _ h4⟩))))
def rs_t (V : Nat → Int64) : Nat → List (Int64 × Nat) → tr_T → List (Nat × Nat) → Prop
  | 0 => fun _ _ _ => False
  | d + 1 => fun sc t M => rs_b V (rs_t V d) sc t M
theorem rs_t_s {V : Nat → Int64} : ∀ (d : Nat) (sc : List (Int64 × Nat)) (t : tr_T) (M : List (Nat × Nat)), rs_t V d sc t M → rs_t V (d + 1) sc t M := by
  intro d
  induction d with
  | zero => intro sc t M h; exact absurd h id
  | succ d ih => intro sc t M h; exact rs_b_m ih h
theorem rs_t_le {V : Nat → Int64} {d e : Nat} {sc : List (Int64 × Nat)} {t : tr_T} {M : List (Nat × Nat)} (h : rs_t V d sc t M) (hde : d ≤ e) : rs_t V e sc t M := by
  induction hde with
  | refl => exact h
  | step _ ih => exact rs_t_s _ _ _ _ ih
section Rs
variable {K : Nat → Int32} {V : Nat → Int64} {self : ps_P} {d : Nat}
theorem rs_args (hs : ∀ sc i m q, sc.length ≤ m → self sc i m = .ok q → rs_t V d sc q.1 q.2.1) (hgd : ∀ sc i m q, self sc i m = .ok q → ps_good K d i m q) {sc : List (Int64 × Nat)} : ∀ f i m r, sc.length ≤ m → ps_args K self sc f i m = .ok r → ∃ Ms : List (List (Nat × Nat)), Ms.length = r.1.length ∧ r.2.1 = Ms.flatten ∧ ∀ j, (hj : j < Ms.length) → rs_t V d sc (tr_ls r.1 j) Ms[j] := by
  intro f
  induction f with
  | zero => intro i m r _ h; cases h; exact ⟨[], rfl, rfl, fun j hj => absurd hj (Nat.not_lt_zero _)⟩
  | succ f ih =>
    intro i m r hm h
    unfold ps_args at h
    split at h
    · obtain ⟨i1, -, g1⟩ := ps_b_ok h
      obtain ⟨q, h2, g2⟩ := ps_b_ok g1
      obtain ⟨s, h3, g3⟩ := ps_b_ok g2
      obtain ⟨-, -, p3, -⟩ := hgd _ _ _ _ h2
      obtain ⟨Ms, e1, e2, e3⟩ := ih _ _ _ (by omega) h3
      cases g3
      refine ⟨q.2.1 :: Ms, ?_, ?_, fun j hj => ?_⟩
      · show Ms.length + 1 = s.1.length + 1
        rw [e1]
      · show q.2.1 ++ s.2.1 = (q.2.1 :: Ms).flatten
        rw [e2]
        rfl
      · cases j with
        | zero => exact hs _ _ _ _ hm h2
        | succ j => exact e3 j (Nat.lt_of_succ_lt_succ hj)
    · cases h
      exact ⟨[], rfl, rfl, fun j hj => absurd hj (Nat.not_lt_zero _)⟩
theorem rs_atom (hs : ∀ sc i m q, sc.length ≤ m → self sc i m = .ok q → rs_t V d sc q.1 q.2.1) (hgd : ∀ sc i m q, self sc i m = .ok q → ps_good K d i m q) {sc : List (Int64 × Nat)} {i m : Nat} {q : ps_O} (hm : sc.length ≤ m) (h : ps_atom K V self sc i m = .ok q) : rs_t V (d + 1) sc q.1 q.2.1 := by
  have hnum : ∀ s i q, ps_num K V s i m = .ok q → rs_t V (d + 1) sc q.1 q.2.1 := fun s i q h => by
    obtain ⟨i2, -, g2⟩ := ps_b_ok h
    cases g2
    exact Or.inl ⟨rfl, rfl⟩
  unfold ps_atom at h
  split at h
  · obtain ⟨i1, -, g1⟩ := ps_b_ok h
    exact hnum _ _ _ g1
  · split at h
    · exact hnum _ _ _ h
    · split at h
      · obtain ⟨i1, -, g1⟩ := ps_b_ok h
        split at g1
        · obtain ⟨i2, -, g2⟩ := ps_b_ok g1
          split at g2
          · obtain ⟨i3, -, g3⟩ := ps_b_ok g2
            cases g3
            exact Or.inr (Or.inr (Or.inr (Or.inr (Or.inl ⟨rfl, [], rfl, rfl, fun j hj => absurd hj (Nat.not_lt_zero _)⟩))))
          · obtain ⟨p, h2, g3⟩ := ps_b_ok g2
            obtain ⟨r, h3, g4⟩ := ps_b_ok g3
            obtain ⟨i3, -, g5⟩ := ps_b_ok g4
            obtain ⟨-, -, p3, -⟩ := hgd _ _ _ _ h2
            obtain ⟨Ms, e1, e2, e3⟩ := rs_args hs hgd _ _ _ _ (by omega) h3
            cases g5
            refine Or.inr (Or.inr (Or.inr (Or.inr (Or.inl ⟨rfl, p.2.1 :: Ms, ?_, ?_, fun j hj => ?_⟩))))
            · show Ms.length + 1 = r.1.length + 1
              rw [e1]
            · show (i, r.1.length + 2) :: (p.2.1 ++ r.2.1) = (i, r.1.length + 1 + 1) :: (p.2.1 :: Ms).flatten
              rw [e2]
              rfl
            · cases j with
              | zero => exact hs _ _ _ _ hm h2
              | succ j => exact e3 j (Nat.lt_of_succ_lt_succ hj)
        · cases g1
          refine Or.inr (Or.inl ?_)
          unfold ps_name
          cases e : ps_look (V i) sc with
          | some s => exact ⟨rfl, Or.inl ⟨s, e, rfl, rfl⟩⟩
          | none => exact ⟨rfl, Or.inr ⟨e, rfl⟩⟩
      · split at h
        · obtain ⟨i1, -, g1⟩ := ps_b_ok h
          obtain ⟨p, h2, g2⟩ := ps_b_ok g1
          obtain ⟨i2, -, g3⟩ := ps_b_ok g2
          cases g3
          exact rs_t_s _ _ _ _ (hs _ _ _ p hm h2)
        · cases h
theorem rs_two {g : Int32 → Bool} (hg : ∀ k : Int32, g k = true → k = 6 ∨ k = 7 ∨ k = 8 ∨ k = 9 ∨ k = 10) {sc : List (Int64 × Nat)} {p : Nat → Nat → Except ps_E ps_O} (hp : ∀ i m q, sc.length ≤ m → p i m = .ok q → rs_t V d sc q.1 q.2.1) (hgd : ∀ i m q, p i m = .ok q → ps_good K d i m q) {i m : Nat} {q : ps_O} (hm : sc.length ≤ m) (h : ps_two K g p i m = .ok q) : rs_t V (d + 1) sc q.1 q.2.1 := by
  obtain ⟨l, h1, g1⟩ := ps_b_ok h
  obtain ⟨-, -, p3, -⟩ := hgd _ _ _ h1
  split at g1
  · next hk =>
    obtain ⟨i1, -, g2⟩ := ps_b_ok g1
    obtain ⟨r, h3, g3⟩ := ps_b_ok g2
    cases g3
    exact Or.inr (Or.inr (Or.inr (Or.inr (Or.inr ⟨hg _ hk, l.2.1, r.2.1, rfl, hp _ _ _ hm h1, hp _ _ _ (by omega) h3⟩))))
  · cases g1
    exact rs_t_s _ _ _ _ (hp _ _ _ hm h1)
theorem rs_ex : ∀ (r : Nat) (sc : List (Int64 × Nat)) (i m : Nat) (q : ps_O), sc.length ≤ m → ps_ex K V r sc i m = .ok q → rs_t V (4 * r) sc q.1 q.2.1 := by
  intro r
  induction r with
  | zero =>
    intro sc i m q _ h
    unfold ps_ex at h
    split at h
    · cases h
    · cases h
  | succ r ih =>
    intro sc i m q hm h
    have hgd : ∀ sc i m q, ps_ex K V r sc i m = .ok q → ps_good K (4 * r) i m q := fun sc i m q hq => ps_ex_good r sc i m q hq
    unfold ps_ex at h
    split at h
    · obtain ⟨i1, k1, g1⟩ := ps_b_ok h
      obtain ⟨i2, k2, g2⟩ := ps_b_ok g1
      obtain ⟨i3, k3, g3⟩ := ps_b_ok g2
      obtain ⟨p, h4, g4⟩ := ps_b_ok g3
      obtain ⟨i4, k4, g5⟩ := ps_b_ok g4
      obtain ⟨s, h6, g6⟩ := ps_b_ok g5
      obtain ⟨-, -, kb⟩ := ps_new_ok k2
      have kb := of_decide_eq_false kb
      obtain ⟨-, -, p3, -⟩ := hgd _ _ _ _ h4
      cases g6
      exact rs_t_le (d := 4 * r + 1) (Or.inr (Or.inr (Or.inl ⟨rfl, by omega, m, p.2.1, s.2.1, by omega, rfl, rfl, ih _ _ _ _ (by omega) h4, ih _ _ _ _ (by show sc.length + 1 ≤ _; omega) h6⟩))) (by omega)
    · split at h
      · obtain ⟨i1, k1, g1⟩ := ps_b_ok h
        obtain ⟨p, h4, g2⟩ := ps_b_ok g1
        obtain ⟨i2, k2, g3⟩ := ps_b_ok g2
        obtain ⟨s, h5, g4⟩ := ps_b_ok g3
        obtain ⟨i3, k3, g5⟩ := ps_b_ok g4
        obtain ⟨u, h6, g6⟩ := ps_b_ok g5
        obtain ⟨-, -, p3, -⟩ := hgd _ _ _ _ h4
        obtain ⟨-, -, p4, -⟩ := hgd _ _ _ _ h5
        cases g6
        exact rs_t_le (d := 4 * r + 1) (Or.inr (Or.inr (Or.inr (Or.inl ⟨rfl, p.2.1, s.2.1, u.2.1, rfl, ih _ _ _ _ hm h4, ih _ _ _ _ (by omega) h5, ih _ _ _ _ (by omega) h6⟩)))) (by omega)
      · have c1 : ∀ k : Int32, (k == 8) = true → k = 6 ∨ k = 7 ∨ k = 8 ∨ k = 9 ∨ k = 10 := fun k hk => by
          rw [beq_iff_eq] at hk
          exact Or.inr (Or.inr (Or.inl hk))
        have c2 : ∀ k : Int32, (k == 6 || k == 7) = true → k = 6 ∨ k = 7 ∨ k = 8 ∨ k = 9 ∨ k = 10 := fun k hk => by
          rw [Bool.or_eq_true, beq_iff_eq, beq_iff_eq] at hk
          rcases hk with z | z
          · exact Or.inl z
          · exact Or.inr (Or.inl z)
        have c3 : ∀ k : Int32, (k == 9 || k == 10) = true → k = 6 ∨ k = 7 ∨ k = 8 ∨ k = 9 ∨ k = 10 := fun k hk => by
          rw [Bool.or_eq_true, beq_iff_eq, beq_iff_eq] at hk
          rcases hk with z | z
          · exact Or.inr (Or.inr (Or.inr (Or.inl z)))
          · exact Or.inr (Or.inr (Or.inr (Or.inr z)))
        exact rs_two (d := 4 * r + 3) c3 (fun i m q hm h => rs_two (d := 4 * r + 2) c2 (fun i m q hm h => rs_two (d := 4 * r + 1) c1 (fun i m q hm h => rs_atom ih hgd hm h) (fun i m q h => ps_atom_good hgd h) hm h) (fun i m q h => ps_two_good (fun i m q h => ps_atom_good hgd h) h) hm h) (fun i m q h => ps_two_good (fun i m q h => ps_two_good (fun i m q h => ps_atom_good hgd h) h) h) hm h
end Rs
end
