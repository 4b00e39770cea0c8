/-! The reference: atoms. -/
section Mb
variable {T : Nat → Int32} {H n f r d m t k u c l w i : Nat} {S S' S1 : wd_S} {e : ps_E} {self : ps_P} {sc : List (Int64 × Nat)}
theorem mt_e_o {e : ps_E} (h : mt_e T n e S) (h1 : S'.1 135 9 = S.1 135 9) (h2 : S'.1 135 10 = S.1 135 10) : mt_e T n e S' := ⟨h.1, h1.trans h.2.1, h2.trans h.2.2⟩
theorem mb_in {W : Nat → Nat → Prop} (hcH : c < H) (hw : ∀ a b, W a b → (143 ≤ a ∧ a ≤ 148 ∧ b = c) ∨ (a = 135 ∧ b = 27)) : ∀ a b, W a b → mp_W f m t k u c l H a b := fun a b z => by
  rcases hw a b z with z | z
  · exact Or.inr (Or.inr (Or.inr (Or.inl ⟨z.1, z.2.1, by omega, by omega⟩)))
  · exact Or.inl ⟨z.1, by omega⟩
/-- a call whose bracket is open, with node c -/
theorem mb_call (h8 : n ≤ 8000) (hE : mp_C T n f H r 0 0 d 1 4 (self sc)) (hgd : ∀ sc i m q, self sc i m = .ok q → ps_good (tk_K T n) d i m q) {o : Nat} (ht : t + 1 + 12 * r ≤ 300) (hk : k + 4 * r ≤ 100) (hw : w + r = 24 ∧ H ≤ 3002) (hm : mh_g T n f m t k u (c + 1) l w i S) (hi : i = o + 2) (hu : u ≤ i) (hc : c + 1501 ≤ H + o) (hl : l + 1501 ≤ H + o) (e143 : S.1 143 c = 8) (e147 : S.1 147 c = Int32.ofNat (tk_p T n o)) (e148 : S.2.1 148 c = tk_V T n o) (e145 : S.1 145 c = Int32.ofNat u) : ∃ g S1 S', (if S.1 135 4 = 15 then fn_Mo_onAtom_220 (Int32.ofNat c) S else wd_d (fn_Mo_push 20 (Int32.ofNat c) S) fun S68 => wd_d (fn_Mo_push 4 0 S68) fun S71 => fn_Mo_onAtom_242 S71) = some S1 ∧ mp_go g S1 S' ∧ of_f (mp_W f m t k u c l H) S S' ∧ match (if tk_K T n i = 16 then ps_b (ps_take (tk_K T n) 16 i) fun i2 => .ok (tr_mk 5 (Int32.ofNat o) o 0 (tr_ls []), [(o, 1)], 1, i2, m) else ps_b (self sc i m) fun q => ps_b (ps_args (tk_K T n) self sc 1500 q.2.2.2.1 q.2.2.2.2) fun r => ps_b (ps_take (tk_K T n) 16 r.2.2.2.1) fun i2 => .ok (tr_mk 5 (Int32.ofNat o) o (r.1.length + 1) (tr_ls (q.1 :: r.1)), (o, r.1.length + 2) :: (q.2.1 ++ r.2.1), 1 + q.2.2.1 + r.2.2.1, i2, r.2.2.2.2) : Except ps_E ps_O) with
    | .error e => mt_e T n e S' ∧ g + 1 ≤ 12 * (1501 - i)
    | .ok q => g + 1 ≤ 12 * (q.2.2.2.1 - i) ∧ ∃ l', l ≤ l' ∧ l' + o ≤ l + q.2.2.2.1 ∧ mh_g T n f q.2.2.2.2 t (k + 1) u (c + q.2.2.1) l' w q.2.2.2.1 S' ∧ ∃ y, S'.1 155 k = Int32.ofNat y ∧ mr_t T n f S' c (c + q.2.2.1) l l' m q.2.2.2.2 (d + 1) y q.1 := by
  have hi15 := hm.1.2.2.2.2.1
  have tk : S.1 135 4 = 15 ↔ tk_K T n i = 16 := ma_tok (kk := 16) hm.1 (by decide)
  by_cases hk16 : tk_K T n i = 16
  · rw [if_pos hk16, if_pos (tk.mpr hk16)]
    obtain ⟨S4, f4, m4, x4, o4⟩ := mh_push (xs := []) (x := 21) (y := Int32.ofNat c) hm (by show t + 0 < 4000; omega) (fun j hj => absurd hj (Nat.not_lt_zero _))
    obtain ⟨S5, f5, m5, x5, o5⟩ := mh_push (x := 1) (y := 15) m4 (by show t + 1 < 4000; omega) x4
    obtain ⟨v1, v2⟩ := x5 0 (show 0 < 2 by decide)
    obtain ⟨v3, v4⟩ := x5 1 (show 1 < 2 by decide)
    have v3 : S5.1 152 (t + 1) = 1 := v3
    have v4 : S5.1 153 (t + 1) = lx_cv 16 := v4
    obtain ⟨S6, G2, o6, R6⟩ := mp_want (kd := 16) h8 m5 (by show t + 1 < 4000; omega) v3 v4 (by decide) (by decide)
    have O6 : of_f (mp_W f m t k u c l H) S S6 := mp_of_f2 (fun a b z => by
      rcases z with z | z
      · exact nx_W_W a b z
      · exact mw_35_W a b z) (mp_of_f2 (fun a b z => mp_le (Nat.le_refl _) (Nat.le_succ _) (Nat.le_refl _) (Nat.le_refl _) (Nat.le_refl _) (Nat.le_refl _) a b (mw_p_W a b z)) (of_mono mw_p_W o4) o5) o6
    have hcode : fn_Mo_onAtom_220 (Int32.ofNat c) S = some S5 := by
      unfold fn_Mo_onAtom_220 fn_Mo_onAtom_242 fn_Mo_onAtom_283
      rw [f4, wd_d_s, f5, wd_d_s]
    have hrow : ∀ a, 143 ≤ a → a ≤ 147 → S6.1 a c = S.1 a c := fun a y1 y2 => by
      rw [o6.1 a c (by unfold nx_W mw_35; omega), o5.1 a c (by unfold mw_p; omega), o4.1 a c (by unfold mw_p; omega)]
    have hrow8 : S6.2.1 148 c = S.2.1 148 c := by
      rw [o6.2.1 148 c (by unfold nx_W mw_35; omega), o5.2.1 148 c (by unfold mw_p; omega), o4.2.1 148 c (by unfold mw_p; omega)]
    cases q1 : ps_take (tk_K T n) 16 i with
    | error e =>
      rw [q1] at R6
      exact ⟨1, S5, S6, hcode, G2, O6, R6, by omega⟩
    | ok i2 =>
      rw [q1] at R6
      obtain ⟨-, t6, rfl, -⟩ := ps_take_ok q1
      have w1 : S6.1 152 t = 21 := by rw [o6.1 152 t (by unfold nx_W mw_35; omega)]; exact v1
      have w2 : S6.1 153 t = Int32.ofNat c := by rw [o6.1 153 t (by unfold nx_W mw_35; omega)]; exact v2
      have R6' : mh_g T n f m (t + 1) k (u + 0) (c + 1) l w (i + 1) S6 := R6
      obtain ⟨S7, G3, M7, z7, a7, b7, d7, O7⟩ := mc_closed R6' (by omega) (by omega) (by omega) (by omega) (by omega) w1 w2 ((hrow 145 (by omega) (by omega)).trans e145)
      refine ⟨1 + 1, S5, S7, hcode, mp_got G2 G3, mp_of_f2 (fun a b z => by
        rcases z with z | z | z | z
        · exact Or.inl ⟨z.1, by omega⟩
        · exact Or.inr (Or.inr (Or.inr (Or.inl ⟨by omega, by omega, by omega⟩)))
        · exact Or.inr (Or.inr (Or.inr (Or.inr (Or.inl ⟨z.1, by omega⟩))))
        · exact Or.inr (Or.inr (Or.inr (Or.inr (Or.inr (Or.inr (Or.inr (Or.inr ⟨z.1, by omega⟩)))))))) O6 O7, by show 1 + 1 + 1 ≤ 12 * (i + 1 - i); omega, l, Nat.le_refl _, by show l + o ≤ l + (i + 1); omega, M7, c, z7, Nat.le_refl _, by show c < c + 1; omega, ?_⟩
      refine Or.inr (Or.inr (Or.inr (Or.inr (Or.inl ⟨rfl, ?_, ?_, ?_, rfl, b7, l, (fun _ => c + 1), a7, Nat.le_refl _, Nat.le_refl _, Nat.lt_succ_self c, Nat.le_refl _, fun j hj => absurd hj (Nat.not_lt_zero _)⟩))))
      · rw [O7.1 143 c (by omega)]; exact (hrow 143 (by omega) (by omega)).trans e143
      · rw [O7.2.1 148 c (by omega)]; exact hrow8.trans e148
      · rw [O7.1 147 c (by omega)]; exact (hrow 147 (by omega) (by omega)).trans e147
  · rw [if_neg hk16, if_neg (fun z => hk16 (tk.mp z))]
    obtain ⟨S4, f4, m4, x4, o4⟩ := mh_push (xs := []) (x := 20) (y := Int32.ofNat c) hm (by show t + 0 < 4000; omega) (fun j hj => absurd hj (Nat.not_lt_zero _))
    obtain ⟨S5, f5, m5, x5, o5⟩ := mh_push (x := 4) (y := 0) m4 (by show t + 1 < 4000; omega) x4
    obtain ⟨v1, v2⟩ := x5 0 (show 0 < 2 by decide)
    obtain ⟨v3, v4⟩ := x5 1 (show 1 < 2 by decide)
    have hcode : (wd_d (fn_Mo_push 20 (Int32.ofNat c) S) fun S68 => wd_d (fn_Mo_push 4 0 S68) fun S71 => fn_Mo_onAtom_242 S71) = some S5 := by
      unfold fn_Mo_onAtom_242 fn_Mo_onAtom_283
      rw [f4, wd_d_s, f5, wd_d_s]
    have O5 : of_f (mp_W f m t k u c l H) S S5 := mp_of_f2 (fun a b z => mp_le (Nat.le_refl _) (Nat.le_succ _) (Nat.le_refl _) (Nat.le_refl _) (Nat.le_refl _) (Nat.le_refl _) a b (mw_p_W a b z)) (of_mono mw_p_W o4) o5
    obtain ⟨g1, S6, G1, O6, R6⟩ := hE i m (t + 1) k u (c + 1) l w S5 m5 v3 (by omega) (by omega) hu (by omega) (by omega) hw
    have O6' : of_f (mp_W f m t k u c l H) S S6 := mp_of_f2 (mp_le (Nat.le_refl _) (Nat.le_succ _) (Nat.le_refl _) (Nat.le_refl _) (Nat.le_succ _) (Nat.le_refl _)) O5 O6
    have hrow : ∀ a, 143 ≤ a → a ≤ 147 → S6.1 a c = S.1 a c := fun a y1 y2 => by
      rw [O6.1 a c (mp_W_n (by omega)), o5.1 a c (by unfold mw_p; omega), o4.1 a c (by unfold mw_p; omega)]
    have hrow8 : S6.2.1 148 c = S.2.1 148 c := by
      rw [O6.2.1 148 c (mp_W_n (by omega)), o5.2.1 148 c (by unfold mw_p; omega), o4.2.1 148 c (by unfold mw_p; omega)]
    cases q1 : self sc i m with
    | error e =>
      rw [q1] at R6
      exact ⟨g1, S5, S6, hcode, G1, O6', R6.1, R6.2⟩
    | ok q =>
      rw [q1] at R6
      obtain ⟨c1, l1, L1, L2, M6, y, Y6, D6⟩ := R6
      obtain ⟨p1, p2, p3, p4, p5, p6, p7, -⟩ := hgd _ _ _ q q1
      have w1 : S6.1 152 t = 20 := by rw [O6.1 152 t (mp_W_n (by omega))]; exact v1
      have w2 : S6.1 153 t = Int32.ofNat c := by rw [O6.1 153 t (mp_W_n (by omega))]; exact v2
      obtain ⟨g2, S7, G2, a7, O7, R7⟩ := mc_args (u := u) (sc := sc) (x := c) h8 hE hgd ht hk hw 1500 q.2.2.2.1 q.2.2.2.2 (c + 1 + q.2.2.1) l1 y [] S6 (by omega) M6 w1 w2 Y6 (by show u + 0 + 1 ≤ _; omega) (by omega) (by omega)
      have O7 : of_f (mp_W f q.2.2.2.2 t k u (c + 1 + q.2.2.1) l1 H) S6 S7 := O7
      have O7' : of_f (mp_W f m t k u c l H) S S7 := mp_of_f2 (mp_le p3 (Nat.le_refl _) (Nat.le_refl _) (Nat.le_refl _) (by omega) L1) O6' O7
      have hrow' : ∀ a, 143 ≤ a → a ≤ 147 → S7.1 a c = S.1 a c := fun a y1 y2 => by
        rw [O7.1 a c (mp_W_n (by omega))]; exact hrow a y1 y2
      have hrow8' : S7.2.1 148 c = S.2.1 148 c := by rw [O7.2.1 148 c (mp_W_n (by omega))]; exact hrow8
      unfold ps_more at R7
      show ∃ g S1 S', _ ∧ _ ∧ _ ∧ (match (ps_b (ps_args (tk_K T n) self sc 1500 q.2.2.2.1 q.2.2.2.2) fun r => ps_b (ps_take (tk_K T n) 16 r.2.2.2.1) fun i2 => .ok (tr_mk 5 (Int32.ofNat o) o (r.1.length + 1) (tr_ls (q.1 :: r.1)), (o, r.1.length + 2) :: (q.2.1 ++ r.2.1), 1 + q.2.2.1 + r.2.2.1, i2, r.2.2.2.2) : Except ps_E ps_O) with
        | .error e => mt_e T n e S' ∧ g + 1 ≤ 12 * (1501 - i)
        | .ok q => _)
      cases q2 : ps_args (tk_K T n) self sc 1500 q.2.2.2.1 q.2.2.2.2 with
      | error e =>
        rw [q2] at R7
        exact ⟨g1 + g2, S5, S7, hcode, mp_got G1 G2, O7', R7.1, by have := R7.2; omega⟩
      | ok r' =>
        rw [q2] at R7
        obtain ⟨j1, j2, j3, j4, j5, -⟩ := ps_args_good hgd _ _ _ _ q2
        have R7 : mc_M T n f q.2.2.2.2 t k u (c + 1 + q.2.2.1) l1 w d q.2.2.2.1 c 0 (ps_b (ps_take (tk_K T n) 16 r'.2.2.2.1) (fun i2 => .ok (r', i2))) g2 S7 := R7
        show ∃ g S1 S', _ ∧ _ ∧ _ ∧ (match (ps_b (ps_take (tk_K T n) 16 r'.2.2.2.1) fun i2 => .ok (tr_mk 5 (Int32.ofNat o) o (r'.1.length + 1) (tr_ls (q.1 :: r'.1)), (o, r'.1.length + 2) :: (q.2.1 ++ r'.2.1), 1 + q.2.2.1 + r'.2.2.1, i2, r'.2.2.2.2) : Except ps_E ps_O) with
          | .error e => mt_e T n e S' ∧ g + 1 ≤ 12 * (1501 - i)
          | .ok q => _)
        cases q3 : ps_take (tk_K T n) 16 r'.2.2.2.1 with
        | error e =>
          rw [q3] at R7
          exact ⟨g1 + g2, S5, S7, hcode, mp_got G1 G2, O7', R7.1, by have := R7.2; omega⟩
        | ok i2 =>
          rw [q3] at R7
          obtain ⟨-, t6, rfl, -⟩ := ps_take_ok q3
          obtain ⟨k1, l3, k2, k3, k4, k5, k6, zs', k7, k8, rg, rg0, rg1, k9⟩ := R7
          have rg1 : rg r'.1.length = c + 1 + q.2.2.1 + r'.2.2.1 := rg1
          have k1 : g2 + 3 ≤ 12 * (r'.2.2.2.1 + 1 - q.2.2.2.1) := k1
          have k3 : l3 + r'.1.length + 1 + q.2.2.2.1 ≤ l1 + (r'.2.2.2.1 + 1) := k3
          have k4 : mh_g T n f r'.2.2.2.2 (t + 1) k (u + (0 + 1 + r'.1.length)) (c + 1 + q.2.2.1 + r'.2.2.1) l3 w (r'.2.2.2.1 + 1) S7 := k4
          have k7 : zs'.length = r'.1.length := k7
          have k9 : ∀ j, (hj : j < zs'.length) → mr_t T n f S7 (rg j) (rg (j + 1)) l1 l3 q.2.2.2.2 r'.2.2.2.2 d zs'[j] (tr_ls r'.1 j) := k9
          obtain ⟨S8, G3, M8, z8, a8, b8, d8, O8⟩ := mc_closed (x := c) k4 (by omega) (by omega) (by omega) (by omega) (by omega) k5 k6 ((hrow' 145 (by omega) (by omega)).trans e145)
          have hM8 : mh_g T n f r'.2.2.2.2 t (k + 1) u (c + (1 + q.2.2.1 + r'.2.2.1)) (l3 + (0 + 1 + r'.1.length)) w (r'.2.2.2.1 + 1) S8 := by
            rw [show c + (1 + q.2.2.1 + r'.2.2.1) = c + 1 + q.2.2.1 + r'.2.2.1 by omega]
            exact M8
          refine ⟨g1 + g2 + 1, S5, S8, hcode, mp_got (mp_got G1 G2) G3, mp_of_f2 (fun a b z => by
            rcases z with z | z | z | z
            · exact Or.inl ⟨z.1, by omega⟩
            · exact Or.inr (Or.inr (Or.inr (Or.inl ⟨by omega, by omega, by omega⟩)))
            · exact Or.inr (Or.inr (Or.inr (Or.inr (Or.inl ⟨z.1, by omega⟩))))
            · exact Or.inr (Or.inr (Or.inr (Or.inr (Or.inr (Or.inr (Or.inr (Or.inr ⟨z.1, by omega⟩)))))))) O7' O8, by show g1 + g2 + 1 + 1 ≤ 12 * (r'.2.2.2.1 + 1 - i); omega, l3 + (0 + 1 + r'.1.length), by omega, by show l3 + (0 + 1 + r'.1.length) + o ≤ l + (r'.2.2.2.1 + 1); omega, hM8, c, z8, Nat.le_refl _, by show c < c + (1 + q.2.2.1 + r'.2.2.1); omega, ?_⟩
          have hb8 : S8.1 145 c = Int32.ofNat (r'.1.length + 1) := by rw [b8, show 0 + 1 + r'.1.length = r'.1.length + 1 by omega]
          refine Or.inr (Or.inr (Or.inr (Or.inr (Or.inl ⟨rfl, ?_, ?_, ?_, rfl, hb8, l3, (fun j => if j = 0 then c + 1 else rg (j - 1)), a8, by omega, by show l3 + (r'.1.length + 1) ≤ l3 + (0 + 1 + r'.1.length); omega, by show c < c + 1; omega, ?_, fun j hj => ?_⟩))))
          · rw [O8.1 143 c (by omega)]; exact (hrow' 143 (by omega) (by omega)).trans e143
          · rw [O8.2.1 148 c (by omega)]; exact hrow8'.trans e148
          · rw [O8.1 147 c (by omega)]; exact (hrow' 147 (by omega) (by omega)).trans e147
          · show (if r'.1.length + 1 = 0 then c + 1 else rg (r'.1.length + 1 - 1)) ≤ c + (1 + q.2.2.1 + r'.2.2.1)
            rw [if_neg (Nat.succ_ne_zero _), Nat.add_sub_cancel, rg1]
            omega
          · have hj : j < r'.1.length + 1 := hj
            show ∃ z, S8.1 149 (l3 + j) = Int32.ofNat z ∧ mr_u T n f S8 l (l3 + (0 + 1 + r'.1.length)) m r'.2.2.2.2 d (if j = 0 then c + 1 else rg (j - 1)) (if j + 1 = 0 then c + 1 else rg (j + 1 - 1)) z (tr_ls (q.1 :: r'.1) j)
            rw [if_neg (Nat.succ_ne_zero j), Nat.add_sub_cancel]
            have ew : S8.1 149 (l3 + j) = S7.1 151 (u + j) := by
              rw [d8 (l3 + j) (by omega) (by omega), show l3 + j - l3 = j by omega]
            cases j with
            | zero =>
              refine ⟨y, ew.trans a7, ?_⟩
              rw [if_pos rfl, rg0]
              show mr_t T n f S8 (c + 1) (c + 1 + q.2.2.1) l (l3 + (0 + 1 + r'.1.length)) m r'.2.2.2.2 d y q.1
              exact mr_t_m (lo := c + 1) (hi := c + 1 + q.2.2.1) (al := l) (ah := l1) (nl := m) (nh := q.2.2.2.2) (Nat.le_refl _) (Nat.le_refl _) (Nat.le_refl _) (by omega) (Nat.le_refl _) j3 (mr_g_t (mr_g_W O7 (Nat.le_refl _) (Nat.le_refl _) (Nat.le_refl _)) (mr_g_o O8 (fun a x y1 y2 y3 y4 => by omega) (fun x y1 y2 => by omega) (fun x y1 y2 => by omega))) _ _ _ D6
            | succ j =>
              have hj2 : j < zs'.length := by rw [k7]; omega
              refine ⟨zs'[j], ?_, ?_⟩
              · rw [ew, ← k8 j hj2, show u + (0 + 1 + j) = u + (j + 1) by omega]
              · rw [if_neg (Nat.succ_ne_zero j), Nat.add_sub_cancel]
                have hrgm : ∀ q', c + 1 ≤ rg q' ∨ zs'.length < q' := fun q' => by
                  rcases Nat.lt_or_ge zs'.length q' with h | h
                  · exact Or.inr h
                  · have hmono : ∀ j, j < zs'.length → rg j < rg (j + 1) := fun j hj => by
                      have := mr_t_b (k9 j hj)
                      omega
                    have := (mr_mono hmono q' h).1
                    omega
                have hrj := hrgm j
                show mr_t T n f S8 (rg j) (rg (j + 1)) l (l3 + (0 + 1 + r'.1.length)) m r'.2.2.2.2 d zs'[j] (tr_ls r'.1 j)
                exact mr_t_m (Nat.le_refl _) (Nat.le_refl _) L1 (by omega) p3 (Nat.le_refl _) (mr_g_o O8 (fun a x y1 y2 y3 y4 => by omega) (fun x y1 y2 => by omega) (fun x y1 y2 => by omega)) _ _ _ (k9 j hj2)
end Mb
