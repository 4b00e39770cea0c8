/-! The reference: any atom. -/
section Md
variable {T : Nat → Int32} {H n f r d m t k u c l w i : Nat} {S S' S1 : wd_S} {e : ps_E} {self : ps_P} {sc : List (Int64 × Nat)}
theorem md_atom (h8 : n ≤ 8000) (hE : mp_C T n f H r 0 0 d 1 4 (self sc)) (hgd : ∀ sc i m q, self sc i m = .ok q → ps_good (tk_K T n) d i m q) : mp_C T n f H r 4 0 (d + 1) 9 10 (ps_atom (tk_K T n) (tk_V T n) self sc) := by
  intro i m t k u c l w S hm hs b1 b2 b3 b4 b5 b6
  have hp := mh_pop hm
  have hi := hm.1.2.2.2.2.1
  have oP : of_f mw_35 S (wd_i S 135 35 (Int32.ofNat t)) := of_i ⟨rfl, rfl⟩ of_refl
  have OP : of_f (mp_W f m t k u c l H) S (wd_i S 135 35 (Int32.ofNat t)) := of_mono mw_35_W oP
  have hloop : ∀ F, fn_Mo_parse_21 (F + 1) S = wd_d (fn_Mo_onAtom (wd_i S 135 35 (Int32.ofNat t))) (fn_Mo_parse_21 F) := fun F => by
    rw [mp_pop hm (by omega) F, hs, if_neg (by decide), if_neg (by decide), if_neg (by decide)]
    congr 1
    unfold fn_Mo_onSum fn_Mo_onSum_248
    rw [if_neg (by decide), if_neg (by decide), if_neg (by decide), if_pos rfl]
    cases fn_Mo_onAtom (wd_i S 135 35 (Int32.ofNat t)) <;> rfl
  generalize wd_i S 135 35 (Int32.ofNat t) = S0 at hp OP hloop
  have k1 : S0.1 135 4 = 11 ↔ tk_K T n i = 1 := ma_tok (kk := 1) hp.1 (by decide)
  have k7 : S0.1 135 4 = 20 ↔ tk_K T n i = 7 := ma_tok (kk := 7) hp.1 (by decide)
  have k2 : S0.1 135 4 = 10 ↔ tk_K T n i = 2 := ma_tok (kk := 2) hp.1 (by decide)
  have k15 : S0.1 135 4 = 14 ↔ tk_K T n i = 15 := ma_tok (kk := 15) hp.1 (by decide)
  have e5 : S0.1 135 5 = Int32.ofNat (tk_p T n i) := hp.1.2.2.2.2.2.2.2.1
  unfold ps_atom
  by_cases c1 : tk_K T n i = 1
  · rw [if_neg (show ¬tk_K T n i = 7 by rw [c1]; decide), if_pos c1]
    obtain ⟨S2, f2, o2, r2⟩ := ma_num (H := H) (pl := S0.1 135 5) (s := 1) h8 (Or.inl rfl) hp (by omega) (by omega) (by omega)
    have hcode : fn_Mo_onAtom S0 = some S2 := by
      unfold fn_Mo_onAtom fn_Mo_onAtom_23 fn_Mo_onAtom_37
      rw [if_pos (k1.mpr c1), if_neg (fun z => by have := k7.mp z; rw [c1] at this; exact absurd this (by decide)), if_pos rfl]
      exact f2
    refine ⟨1, S2, mp_g1 hloop hcode, of_trans OP o2, ?_⟩
    cases q : ps_num (tk_K T n) (tk_V T n) 1 i m with
    | error e => rw [q] at r2; exact ⟨r2, by omega⟩
    | ok v =>
      rw [q] at r2
      obtain ⟨p1, p2, -⟩ := ps_num_good q
      obtain ⟨M2, y, Y2, D2⟩ := r2
      exact ⟨by omega, l, Nat.le_refl _, by omega, M2, y, Y2, mr_t_le D2 (by omega)⟩
  · by_cases c7 : tk_K T n i = 7
    · rw [if_pos c7]
      obtain ⟨S2, f2, o2, r2⟩ := mt_pass h8 hp.1 (by rw [c7]; decide)
      rw [c7] at r2
      have hcode : fn_Mo_onAtom S0 = fn_Mo_onAtom_46 (S0.1 135 5) 1 S2 := by
        unfold fn_Mo_onAtom fn_Mo_onAtom_23 fn_Mo_onAtom_37
        rw [if_neg (fun z => c1 (k1.mp z)), if_pos (k7.mpr c7), if_pos (k7.mpr c7), if_neg (show ¬(1 : Int32) = 0 by decide), f2, wd_d_s]
      cases q1 : ps_take (tk_K T n) 7 i with
      | error e =>
        rw [q1] at r2
        have h9 : ¬S2.1 135 9 = 0 := by rw [r2.2.1]; exact r2.1
        refine ⟨1, S2, mp_g1 hloop (hcode.trans ?_), of_trans OP (of_mono nx_W_W o2), r2, by omega⟩
        unfold fn_Mo_onAtom_46 fn_Mo_onAtom_71 fn_Mo_onAtom_116 fn_Mo_onAtom_283
        rw [if_neg h9, if_neg h9]
      | ok i1 =>
        rw [q1] at r2
        obtain ⟨-, t2, rfl, -⟩ := ps_take_ok q1
        have m2 := mh_nx o2 hp r2
        obtain ⟨S3, f3, o3, r3⟩ := ma_num (H := H) (pl := S0.1 135 5) (s := -1) h8 (Or.inr rfl) m2 (by omega) (by omega) (by omega)
        refine ⟨1, S3, mp_g1 hloop (hcode.trans f3), of_trans OP (of_trans (of_mono nx_W_W o2) o3), ?_⟩
        show (match ps_num (tk_K T n) (tk_V T n) (-1) (i + 1) m with
          | .error e => mt_e T n e S3 ∧ 1 + 9 ≤ 12 * (1501 - i)
          | .ok q => 1 + 9 ≤ 12 * (q.2.2.2.1 - i) ∧ ∃ l', l ≤ l' ∧ l' + i ≤ l + q.2.2.2.1 ∧ mh_g T n f q.2.2.2.2 t (k + 1) u (c + q.2.2.1) l' w q.2.2.2.1 S3 ∧ ∃ y, S3.1 155 k = Int32.ofNat y ∧ mr_t T n f S3 c (c + q.2.2.1) l l' m q.2.2.2.2 (d + 1) y q.1)
        cases q : ps_num (tk_K T n) (tk_V T n) (-1) (i + 1) m with
        | error e => rw [q] at r3; exact ⟨r3, by omega⟩
        | ok v =>
          rw [q] at r3
          obtain ⟨p1, p2, -⟩ := ps_num_good q
          obtain ⟨M2, y, Y2, D2⟩ := r3
          exact ⟨by omega, l, Nat.le_refl _, by omega, M2, y, Y2, mr_t_le D2 (by omega)⟩
    · rw [if_neg c7, if_neg c1]
      by_cases c2 : tk_K T n i = 2
      · rw [if_pos c2]
        obtain ⟨S2, f2, m2, a2, bb2, o2⟩ := mh_node (x := 7) (y := S0.1 135 5) hp (by omega)
        generalize hS3 : wd_l S2 148 c (S2.2.1 135 7) = S3
        have o3 : of_f (fun a b => a = 148 ∧ b = c) S2 S3 := by rw [← hS3]; exact of_l ⟨rfl, rfl⟩ of_refl
        have m3 : mh_g T n f m t k u (c + 1) l w i S3 := mh_w o3 (fun a b z => by omega) m2
        have e148 : S3.2.1 148 c = tk_V T n i := by
          rw [← hS3, fr_l1, if_pos ⟨rfl, rfl⟩]
          exact m2.1.2.2.2.2.2.2.2.2.2.2.1 c2
        obtain ⟨S4, f4, o4, r4⟩ := mt_pass h8 m3.1 (by rw [c2]; decide)
        rw [c2] at r4
        have O4 : of_f (mp_W f m t k u c l H) S S4 := mp_of_f2 nx_W_W (mp_of_f2 (mb_in (by omega) (fun a b z => by omega)) (mp_of_f2 (mb_in (by omega) (fun a b z => by unfold mw_n at z; omega)) OP o2) o3) o4
        have n143 : S4.1 143 c = 7 := by rw [o4.1 143 c (by unfold nx_W; omega), o3.1 143 c (by omega)]; exact a2
        have n147 : S4.1 147 c = Int32.ofNat (tk_p T n i) := by rw [o4.1 147 c (by unfold nx_W; omega), o3.1 147 c (by omega), bb2]; exact e5
        have n148 : S4.2.1 148 c = tk_V T n i := by rw [o4.2.1 148 c (by unfold nx_W; omega)]; exact e148
        have hin := ms_in (show c < 15010 by omega) (by decide)
        have e37 : S4.1 135 37 = Int32.ofNat k := by rw [o4.1 135 37 (by unfold nx_W; omega)]; exact m3.2.2.2.2.2.2.1
        have hpre : ∀ X, (if S4.1 135 9 = 0 then (if S4.1 135 4 = 14 then (if Int32.ofNat c < 0 ∨ 15010 ≤ (Int32.ofNat c).toNatClampNeg then none else (wd_b (wd_i S4 143 (Int32.ofNat c).toNatClampNeg (8 : Int32)) fun S54 => (if Int32.ofNat c < 0 ∨ 15010 ≤ (Int32.ofNat c).toNatClampNeg then none else (wd_b (wd_i S54 145 (Int32.ofNat c).toNatClampNeg (S54.1 135 30)) fun S56 => (wd_d (fn_Mo_pass S56) fun S57 => (if (S57.1 135 9) = 0 then (if (S57.1 135 4) = (15 : Int32) then fn_Mo_onAtom_220 (Int32.ofNat c) S57 else (wd_d (fn_Mo_push (20 : Int32) (Int32.ofNat c) S57) fun S68 => (wd_d (fn_Mo_push (4 : Int32) (0 : Int32) S68) fun S71 => fn_Mo_onAtom_242 S71))) else fn_Mo_onAtom_220 (Int32.ofNat c) S57)))))) else fn_Mo_onAtom_237 (Int32.ofNat c) S4) else fn_Mo_onAtom_237 (Int32.ofNat c) S4) = X → fn_Mo_onAtom S0 = X := by
          intro X hX
          unfold fn_Mo_onAtom
          rw [if_neg (fun z => c1 (k1.mp z)), if_neg (fun z => c7 (k7.mp z)), if_pos (k2.mpr c2), f2, wd_c_s, if_neg hin]
          simp only [wd_b]
          rw [im_t (by omega), hS3, f4, wd_d_s]
          simp only [wd_b] at hX
          rw [im_t (by omega)] at hX
          exact hX
        have h237 : ∃ S5, fn_Mo_onAtom_237 (Int32.ofNat c) S4 = some S5 ∧ of_f (mw_k k) S4 S5 ∧ S5.1 155 k = Int32.ofNat c ∧ S5.1 135 37 = Int32.ofNat (k + 1) := by
          unfold fn_Mo_onAtom_237 fn_Mo_onAtom_242 fn_Mo_onAtom_283
          rw [ms_keep e37 (by omega), wd_d_s]
          refine ⟨_, rfl, of_i (Or.inr ⟨rfl, rfl⟩) (of_i (Or.inl ⟨rfl, rfl⟩) of_refl), ?_, ?_⟩
          · unfold ms_k; rw [fr_ne (by omega), fr_eq]
          · unfold ms_k; rw [fr_eq]
        obtain ⟨S5, f5, o5, a5, b5'⟩ := h237
        cases q1 : ps_take (tk_K T n) 2 i with
        | error e =>
          rw [q1] at r4
          have h9 : ¬S4.1 135 9 = 0 := by rw [r4.2.1]; exact r4.1
          refine ⟨1, S5, mp_g1 hloop (hpre _ (by rw [if_neg h9]; exact f5)), mp_of_f2 mw_k_W O4 o5, mt_e_o r4 (o5.1 135 9 (by unfold mw_k; omega)) (o5.1 135 10 (by unfold mw_k; omega)), by omega⟩
        | ok i1 =>
          rw [q1] at r4
          obtain ⟨-, t2, rfl, t4⟩ := ps_take_ok q1
          have m4 := mh_nx o4 m3 r4
          have h9 : S4.1 135 9 = 0 := r4.2.2.1
          have k15' : S4.1 135 4 = 14 ↔ tk_K T n (i + 1) = 15 := ma_tok (kk := 15) m4.1 (by decide)
          show ∃ g S', mp_go g S S' ∧ mp_R T n f H m t k u c l w (d + 1) 9 i S (if tk_K T n (i + 1) = 15 then _ else _) g S'
          by_cases c15 : tk_K T n (i + 1) = 15
          · rw [if_pos c15]
            unfold ps_call
            generalize hS6 : wd_i (wd_i S4 143 c 8) 145 c (Int32.ofNat u) = S6
            have e30 : (wd_i S4 143 c 8).1 135 30 = Int32.ofNat u := by rw [fr_ne (by omega)]; exact m4.2.2.2.2.2.2.2.1
            have o6 : of_f (fun a b => (a = 143 ∨ a = 145) ∧ b = c) S4 S6 := by rw [← hS6]; exact of_i (by omega) (of_i (by omega) of_refl)
            have m6 : mh_g T n f m t k u (c + 1) l w (i + 1) S6 := mh_w o6 (fun a b z => by omega) m4
            obtain ⟨S7, f7, o7, r7⟩ := mt_pass h8 m6.1 (by rw [c15]; decide)
            rw [c15] at r7
            have O7 : of_f (mp_W f m t k u c l H) S S7 := mp_of_f2 nx_W_W (mp_of_f2 (mb_in (by omega) (fun a b z => by omega)) O4 o6) o7
            have hpre2 : ∀ X, (if (S7.1 135 9) = 0 then (if (S7.1 135 4) = (15 : Int32) then fn_Mo_onAtom_220 (Int32.ofNat c) S7 else (wd_d (fn_Mo_push (20 : Int32) (Int32.ofNat c) S7) fun S68 => (wd_d (fn_Mo_push (4 : Int32) (0 : Int32) S68) fun S71 => fn_Mo_onAtom_242 S71))) else fn_Mo_onAtom_220 (Int32.ofNat c) S7) = X → fn_Mo_onAtom S0 = X := by
              intro X hX
              refine hpre X ?_
              rw [if_pos h9, if_pos (k15'.mpr c15), if_neg hin]
              simp only [wd_b]
              rw [if_neg hin, im_t (by omega), e30, hS6, f7, wd_d_s]
              exact hX
            cases q2 : ps_take (tk_K T n) 15 (i + 1) with
            | error e =>
              rw [q2] at r7
              have h9' : ¬S7.1 135 9 = 0 := by rw [r7.2.1]; exact r7.1
              have e35 : S7.1 135 35 = Int32.ofNat t := by rw [o7.1 135 35 (by unfold nx_W; omega)]; exact m6.2.2.2.2.2.1
              have h220 : ∃ S8, fn_Mo_onAtom_220 (Int32.ofNat c) S7 = some S8 ∧ of_f (mp_W f m t k u c l H) S7 S8 ∧ S8.1 135 9 = S7.1 135 9 ∧ S8.1 135 10 = S7.1 135 10 := by
                unfold fn_Mo_onAtom_220 fn_Mo_onAtom_242 fn_Mo_onAtom_283
                rw [ms_push e35 (by omega), wd_d_s, ms_push (t := t + 1) (by unfold ms_p; rw [fr_eq]) (by omega), wd_d_s]
                refine ⟨_, rfl, ?_, ?_, ?_⟩
                · unfold ms_p
                  exact of_i (mw_35_W _ _ ⟨rfl, rfl⟩) (of_i (Or.inr (Or.inr (Or.inr (Or.inr (Or.inr (Or.inr (Or.inr (Or.inl ⟨rfl, by omega⟩)))))))) (of_i (Or.inr (Or.inr (Or.inr (Or.inr (Or.inr (Or.inr (Or.inl ⟨rfl, by omega⟩))))))) (of_i (mw_35_W _ _ ⟨rfl, rfl⟩) (of_i (Or.inr (Or.inr (Or.inr (Or.inr (Or.inr (Or.inr (Or.inr (Or.inl ⟨rfl, by omega⟩)))))))) (of_i (Or.inr (Or.inr (Or.inr (Or.inr (Or.inr (Or.inr (Or.inl ⟨rfl, by omega⟩))))))) of_refl)))))
                · unfold ms_p
                  rw [fr_ne (by omega), fr_ne (by omega), fr_ne (by omega), fr_ne (by omega), fr_ne (by omega), fr_ne (by omega)]
                · unfold ms_p
                  rw [fr_ne (by omega), fr_ne (by omega), fr_ne (by omega), fr_ne (by omega), fr_ne (by omega), fr_ne (by omega)]
              obtain ⟨S8, f8, o8, e9, e10⟩ := h220
              exact ⟨1, S8, mp_g1 hloop (hpre2 _ (by rw [if_neg h9']; exact f8)), of_trans O7 o8, mt_e_o r7 e9 e10, by omega⟩
            | ok i2 =>
              rw [q2] at r7
              obtain ⟨-, t6, rfl, -⟩ := ps_take_ok q2
              have m7 := mh_nx o7 m6 r7
              have h9' : S7.1 135 9 = 0 := r7.2.2.1
              obtain ⟨g, S8, S9, f8, G8, O9, R9⟩ := mb_call (o := i) h8 hE hgd (by omega) (by omega) b6 m7 rfl (by omega) (by omega) (by omega) (by rw [o7.1 143 c (by unfold nx_W; omega), ← hS6, fr_ne (by omega), fr_eq]) (by rw [o7.1 147 c (by unfold nx_W; omega), o6.1 147 c (by omega)]; exact n147) (by rw [o7.2.1 148 c (by unfold nx_W; omega), o6.2.1 148 c (by omega)]; exact n148) (by rw [o7.1 145 c (by unfold nx_W; omega), ← hS6, fr_eq])
              refine ⟨1 + g, S9, mp_got (mp_g1 hloop (hpre2 _ (by rw [if_pos h9']; exact f8))) G8, of_trans O7 O9, ?_⟩
              show (match (if tk_K T n (i + 1 + 1) = 16 then ps_b (ps_take (tk_K T n) 16 (i + 1 + 1)) fun i2 => .ok (tr_mk 5 (Int32.ofNat i) i 0 (tr_ls []), [(i, 1)], 1, i2, m) else ps_b (self sc (i + 1 + 1) m) fun q => ps_b (ps_args (tk_K T n) self sc 1500 q.2.2.2.1 q.2.2.2.2) fun r => ps_b (ps_take (tk_K T n) 16 r.2.2.2.1) fun i2 => .ok (tr_mk 5 (Int32.ofNat i) i (r.1.length + 1) (tr_ls (q.1 :: r.1)), (i, r.1.length + 2) :: (q.2.1 ++ r.2.1), 1 + q.2.2.1 + r.2.2.1, i2, r.2.2.2.2) : Except ps_E ps_O) with
                | .error e => mt_e T n e S9 ∧ 1 + g + 9 ≤ 12 * (1501 - i)
                | .ok q => 1 + g + 9 ≤ 12 * (q.2.2.2.1 - i) ∧ ∃ l', l ≤ l' ∧ l' + i ≤ l + q.2.2.2.1 ∧ mh_g T n f q.2.2.2.2 t (k + 1) u (c + q.2.2.1) l' w q.2.2.2.1 S9 ∧ ∃ y, S9.1 155 k = Int32.ofNat y ∧ mr_t T n f S9 c (c + q.2.2.1) l l' m q.2.2.2.2 (d + 1) y q.1)
              generalize hrr : (if tk_K T n (i + 1 + 1) = 16 then ps_b (ps_take (tk_K T n) 16 (i + 1 + 1)) fun i2 => .ok (tr_mk 5 (Int32.ofNat i) i 0 (tr_ls []), [(i, 1)], 1, i2, m) else ps_b (self sc (i + 1 + 1) m) fun q => ps_b (ps_args (tk_K T n) self sc 1500 q.2.2.2.1 q.2.2.2.2) fun r => ps_b (ps_take (tk_K T n) 16 r.2.2.2.1) fun i2 => .ok (tr_mk 5 (Int32.ofNat i) i (r.1.length + 1) (tr_ls (q.1 :: r.1)), (i, r.1.length + 2) :: (q.2.1 ++ r.2.1), 1 + q.2.2.1 + r.2.2.1, i2, r.2.2.2.2) : Except ps_E ps_O) = rr at R9 ⊢
              cases rr with
              | error e => exact ⟨R9.1, by have := R9.2; omega⟩
              | ok v => exact ⟨by have := R9.1; omega, R9.2⟩
          · rw [if_neg c15]
            have m5 : mh_g T n f m t (k + 1) u (c + 1) l w (i + 1) S5 := by
              have hne : ∀ b, b ≠ 37 → S5.1 135 b = S4.1 135 b := fun b hb => o5.1 _ _ (by unfold mw_k; omega)
              refine mh_u m4 (funext (fun b => o5.1 _ _ (by unfold mw_k; omega))) (fun k hk => hne k (by omega)) (o5.2.1 _ _ (by unfold mw_k; omega)) (o5.1 _ _ (by unfold mw_k; omega)) ?_ b5' ?_ ?_ ?_ ?_
              · rw [hne 35 (by decide)]; exact m4.2.2.2.2.2.1
              · rw [hne 30 (by decide)]; exact m4.2.2.2.2.2.2.2.1
              · rw [hne 27 (by decide)]; exact m4.2.2.2.2.2.2.2.2.1
              · rw [hne 28 (by decide)]; exact m4.2.2.2.2.2.2.2.2.2.1
              · rw [hne 38 (by decide)]; exact m4.2.2.2.2.2.2.2.2.2.2
            refine ⟨1, S5, mp_g1 hloop (hpre _ (by rw [if_pos h9, if_neg (fun z => c15 (k15'.mp z))]; exact f5)), mp_of_f2 mw_k_W O4 o5, ?_⟩
            have x143 : S5.1 143 c = 7 := by rw [o5.1 143 c (by unfold mw_k; omega)]; exact n143
            have x147 : S5.1 147 c = Int32.ofNat (tk_p T n i) := by rw [o5.1 147 c (by unfold mw_k; omega)]; exact n147
            have x148 : S5.2.1 148 c = tk_V T n i := by rw [o5.2.1 148 c (by unfold mw_k; omega)]; exact n148
            unfold ps_name
            cases q2 : ps_look (tk_V T n i) sc with
            | some s => exact ⟨by show 1 + 9 ≤ 12 * (i + 1 - i); omega, l, Nat.le_refl _, by show l + i ≤ l + (i + 1); omega, m5, c, a5, Nat.le_refl _, by show c < c + 1; omega, Or.inr (Or.inl ⟨rfl, rfl, x143, x148, x147⟩)⟩
            | none => exact ⟨by show 1 + 9 ≤ 12 * (i + 1 - i); omega, l, Nat.le_refl _, by show l + i ≤ l + (i + 1); omega, m5, c, a5, Nat.le_refl _, by show c < c + 1; omega, Or.inr (Or.inl ⟨rfl, rfl, x143, x148, x147⟩)⟩
      · rw [if_neg c2]
        by_cases c15 : tk_K T n i = 15
        · rw [if_pos c15]
          obtain ⟨S4, f4, m4, x4, o4⟩ := mh_push (xs := []) (x := 1) (y := 15) hp (by show t + 0 < 4000; omega) (fun j hj => absurd hj (Nat.not_lt_zero _))
          obtain ⟨S5, f5, m5, x5, o5⟩ := mh_push (x := 4) (y := 0) m4 (by show t + 1 < 4000; omega) x4
          obtain ⟨S6, f6, o6, r6⟩ := mt_pass h8 m5.1 (by rw [c15]; decide)
          rw [c15] at r6
          have hcode : fn_Mo_onAtom S0 = some S6 := by
            unfold fn_Mo_onAtom fn_Mo_onAtom_283
            rw [if_neg (fun z => c1 (k1.mp z)), if_neg (fun z => c7 (k7.mp z)), if_neg (fun z => c2 (k2.mp z)), if_pos (k15.mpr c15), f4, wd_d_s, f5, wd_d_s, f6, wd_d_s]
          have G1 : mp_go 1 S S6 := mp_g1 hloop hcode
          have O6 : of_f (mp_W f m t k u c l H) S S6 := mp_of_f2 nx_W_W (mp_of_f2 (fun a b z => mp_le (Nat.le_refl _) (Nat.le_succ _) (Nat.le_refl _) (Nat.le_refl _) (Nat.le_refl _) (Nat.le_refl _) a b (mw_p_W a b z)) (mp_of_f2 mw_p_W OP o4) o5) o6
          cases q1 : ps_take (tk_K T n) 15 i with
          | error e =>
            rw [q1] at r6
            exact ⟨1, S6, G1, O6, r6, by omega⟩
          | ok i1 =>
            rw [q1] at r6
            obtain ⟨-, t2, rfl, -⟩ := ps_take_ok q1
            have m6 := mh_nx o6 m5 r6
            have hs6 : mh_s t ([] ++ [(1, 15)] ++ [(4, 0)]) S6 := mh_s_o (fun b _ => ⟨o6.1 152 b (by unfold nx_W; omega), o6.1 153 b (by unfold nx_W; omega)⟩) x5
            obtain ⟨v1, v2⟩ := hs6 0 (show 0 < 2 by decide)
            obtain ⟨v3, v4⟩ := hs6 1 (show 1 < 2 by decide)
            have v1 : S6.1 152 t = 1 := v1
            have v2 : S6.1 153 t = lx_cv 16 := v2
            obtain ⟨g2, S7, G2, O7, R7⟩ := hE (i + 1) m (t + 1) k u c l w S6 m6 v3 (by omega) (by omega) (by omega) (by omega) (by omega) b6
            have O7' : of_f (mp_W f m t k u c l H) S S7 := mp_of_f2 (mp_le (Nat.le_refl _) (Nat.le_succ _) (Nat.le_refl _) (Nat.le_refl _) (Nat.le_refl _) (Nat.le_refl _)) O6 O7
            show ∃ g S', mp_go g S S' ∧ mp_R T n f H m t k u c l w (d + 1) 9 i S (ps_b (self sc (i + 1) m) _) g S'
            cases q2 : self sc (i + 1) m with
            | error e =>
              rw [q2] at R7
              exact ⟨1 + g2, S7, mp_got G1 G2, O7', R7.1, by have := R7.2; omega⟩
            | ok v =>
              rw [q2] at R7
              obtain ⟨c2', l2, L1, L2, M7, y, Y7, D7⟩ := R7
              obtain ⟨p1, p2, p3, p4, p5, p6, p7, -⟩ := hgd _ _ _ v q2
              have w1 : S7.1 152 t = 1 := by rw [O7.1 152 t (mp_W_n (by omega))]; exact v1
              have w2 : S7.1 153 t = lx_cv 16 := by rw [O7.1 153 t (mp_W_n (by omega))]; exact v2
              obtain ⟨S8, G3, o8, R8⟩ := mp_want (kd := 16) h8 M7 (by omega) w1 w2 (by decide) (by decide)
              have O8 : of_f (mp_W f m t k u c l H) S S8 := mp_of_f2 (fun a b z => by
                rcases z with z | z
                · exact nx_W_W a b z
                · exact mw_35_W a b z) O7' o8
              refine ⟨1 + g2 + 1, S8, mp_got (mp_got G1 G2) G3, O8, ?_⟩
              show (match (ps_b (ps_take (tk_K T n) 16 v.2.2.2.1) fun i2 => .ok (v.1, v.2.1, v.2.2.1, i2, v.2.2.2.2) : Except ps_E ps_O) with
                | .error e => mt_e T n e S8 ∧ 1 + g2 + 1 + 9 ≤ 12 * (1501 - i)
                | .ok q => 1 + g2 + 1 + 9 ≤ 12 * (q.2.2.2.1 - i) ∧ ∃ l', l ≤ l' ∧ l' + i ≤ l + q.2.2.2.1 ∧ mh_g T n f q.2.2.2.2 t (k + 1) u (c + q.2.2.1) l' w q.2.2.2.1 S8 ∧ ∃ y, S8.1 155 k = Int32.ofNat y ∧ mr_t T n f S8 c (c + q.2.2.1) l l' m q.2.2.2.2 (d + 1) y q.1)
              cases q3 : ps_take (tk_K T n) 16 v.2.2.2.1 with
              | error e =>
                rw [q3] at R8
                exact ⟨R8, by omega⟩
              | ok i2 =>
                rw [q3] at R8
                obtain ⟨-, t6, rfl, -⟩ := ps_take_ok q3
                refine ⟨by show 1 + g2 + 1 + 9 ≤ 12 * (v.2.2.2.1 + 1 - i); omega, l2, L1, by show l2 + i ≤ l + (v.2.2.2.1 + 1); omega, R8, y, ?_, ?_⟩
                · rw [o8.1 155 k (by unfold nx_W mw_35; omega)]; exact Y7
                · exact mr_t_s _ _ _ (mr_t_m (Nat.le_refl _) (Nat.le_refl _) (Nat.le_refl _) (Nat.le_refl _) (Nat.le_refl _) (Nat.le_refl _) (mr_g_o o8 (fun a x y1 y2 y3 y4 => by unfold nx_W mw_35; omega) (fun x y1 y2 => by unfold nx_W mw_35; omega) (fun x y1 y2 => by unfold nx_W mw_35; omega)) _ _ _ D7)
        · rw [if_neg c15]
          obtain ⟨S2, e2, o2, r2⟩ := mt_stop (x := 2) (by decide) hp.1
          have hcode : fn_Mo_onAtom S0 = some S2 := by
            unfold fn_Mo_onAtom fn_Mo_onAtom_283
            rw [if_neg (fun z => c1 (k1.mp z)), if_neg (fun z => c7 (k7.mp z)), if_neg (fun z => c2 (k2.mp z)), if_neg (fun z => c15 (k15.mp z)), e2, wd_d_s]
          exact ⟨1, S2, mp_g1 hloop hcode, of_trans OP (of_mono nx_W_W o2), r2, by omega⟩
end Md
