/-! The reference: let and if. -/
section Mf
variable {T : Nat → Int32} {H n f r d m t k u c l w i : Nat} {S S' S1 : wd_S} {e : ps_E} {self : ps_P} {sc : List (Int64 × Nat)}
theorem mw_p_le {t' : Nat} (h : t ≤ t') : ∀ a b, mw_p t' a b → mp_W f m t k u c l H a b := fun a b z => mp_le (Nat.le_refl _) h (Nat.le_refl _) (Nat.le_refl _) (Nat.le_refl _) (Nat.le_refl _) a b (mw_p_W a b z)
theorem mw_nm {W : Nat → Nat → Prop} (hcH : c < H) (hw : ∀ a b, W a b → (a = 135 ∧ (b = 35 ∨ b = 37 ∨ b = 38 ∨ b = 27)) ∨ (143 ≤ a ∧ a ≤ 148 ∧ b = c) ∨ (a = 155 ∧ b = k)) : ∀ a b, W a b → mp_W f m t k u c l H a b := fun a b z => by
  rcases hw a b z with z | z | z
  · exact Or.inl ⟨z.1, by omega⟩
  · exact Or.inr (Or.inr (Or.inr (Or.inl ⟨z.1, z.2.1, by omega, by omega⟩)))
  · exact Or.inr (Or.inr (Or.inr (Or.inr (Or.inr (Or.inr (Or.inr (Or.inr ⟨z.1, by omega⟩)))))))
theorem mw_me {m' : Nat} (h : m ≤ m') : ∀ a b, me_W f m' a b → mp_W f m t k u c l H a b := fun a b z => by
  rcases z with z | z | z
  · exact nx_W_W a b z
  · exact Or.inr (Or.inl z)
  · exact Or.inr (Or.inr (Or.inl ⟨z.1, by omega, by omega⟩))
theorem mw_want : ∀ a b, (nx_W a b ∨ mw_35 a b) → mp_W f m t k u c l H a b := fun a b z => by
  rcases z with z | z
  · exact nx_W_W a b z
  · exact mw_35_W a b z
/-- a let whose word is taken -/
theorem mf_let (h8 : n ≤ 8000) (hE : ∀ sc, mp_C T n f H r 0 0 d 1 4 (self sc)) (hgd : ∀ sc i m q, self sc i m = .ok q → ps_good (tk_K T n) d i m q) (hm : mh_g T n f m (t + 9) k u (c + 1) l (w + 1) (i + 1) S) (hs : mh_s t [(5, 0), (18, Int32.ofNat c), (16, Int32.ofNat c), (4, 0), (1, 6), (15, Int32.ofNat c), (4, 0), (1, 13), (13, Int32.ofNat c)] S) (b1 : t + 12 * r + 12 ≤ 300) (b2 : k + 4 * r + 4 ≤ 100) (b3 : u ≤ i) (b4 : c + 1501 ≤ H + i) (b5 : l + 1501 ≤ H + i) (b6 : w + 1 + r = 24 ∧ H ≤ 3002) (hi : i < 1500) (h143 : S.1 143 c = 3) : ∃ g S', mp_go g S S' ∧ of_f (mp_W f m t k u c l H) S S' ∧ match (ps_b (ps_new (tk_K T n) false (decide (16 ≤ m)) (i + 1)) fun i2 => ps_b (ps_take (tk_K T n) 14 i2) fun i3 => ps_b (self sc i3 (m + 1)) fun q => ps_b (ps_take (tk_K T n) 13 q.2.2.2.1) fun i4 => ps_b (self ((tk_V T n (i + 1), m) :: sc) i4 q.2.2.2.2) fun r => .ok (tr_2 3 (Int32.ofNat m) (i + 1) q.1 r.1, q.2.1 ++ r.2.1, 1 + q.2.2.1 + r.2.2.1, r.2.2.2.1, r.2.2.2.2) : Except ps_E ps_O) with
    | .error e => mt_e T n e S' ∧ g + 2 ≤ 12 * (1501 - i)
    | .ok q => g + 2 ≤ 12 * (q.2.2.2.1 - i) ∧ ∃ l', l ≤ l' ∧ l' + i ≤ l + q.2.2.2.1 ∧ mh_g T n f q.2.2.2.2 t (k + 1) u (c + q.2.2.1) l' w q.2.2.2.1 S' ∧ ∃ y, S'.1 155 k = Int32.ofNat y ∧ mr_t T n f S' c (c + q.2.2.1) l l' m q.2.2.2.2 (d + 1) y q.1 := by
  have s0 : S.1 152 t = 5 := (hs 0 (show 0 < 9 by decide)).1
  have s1 : S.1 152 (t + 1) = 18 := (hs 1 (show 1 < 9 by decide)).1
  have s1' : S.1 153 (t + 1) = Int32.ofNat c := (hs 1 (show 1 < 9 by decide)).2
  have s2 : S.1 152 (t + 2) = 16 := (hs 2 (show 2 < 9 by decide)).1
  have s2' : S.1 153 (t + 2) = Int32.ofNat c := (hs 2 (show 2 < 9 by decide)).2
  have s3 : S.1 152 (t + 3) = 4 := (hs 3 (show 3 < 9 by decide)).1
  have s4 : S.1 152 (t + 4) = 1 := (hs 4 (show 4 < 9 by decide)).1
  have s4' : S.1 153 (t + 4) = lx_cv 13 := (hs 4 (show 4 < 9 by decide)).2
  have s5 : S.1 152 (t + 5) = 15 := (hs 5 (show 5 < 9 by decide)).1
  have s5' : S.1 153 (t + 5) = Int32.ofNat c := (hs 5 (show 5 < 9 by decide)).2
  have s6 : S.1 152 (t + 6) = 4 := (hs 6 (show 6 < 9 by decide)).1
  have s7 : S.1 152 (t + 7) = 1 := (hs 7 (show 7 < 9 by decide)).1
  have s7' : S.1 153 (t + 7) = lx_cv 14 := (hs 7 (show 7 < 9 by decide)).2
  have s8 : S.1 152 (t + 8) = 13 := (hs 8 (show 8 < 9 by decide)).1
  have s8' : S.1 153 (t + 8) = Int32.ofNat c := (hs 8 (show 8 < 9 by decide)).2
  -- the name
  have hp := mh_pop (t := t + 8) hm
  obtain ⟨x, Sa, fa, oa, ra⟩ := me_name h8 hp
  have hin := ms_in (show c < 15010 by omega) (show 15010 < 2147483648 by decide)
  have hcode : fn_Mo_onRest 13 (Int32.ofNat c) (wd_i S 135 35 (Int32.ofNat (t + 8))) = some (wd_i Sa 146 c x) := by
    unfold fn_Mo_onRest fn_Mo_onRest_261
    rw [if_pos rfl, fa, wd_c_s, if_neg hin]
    simp only [wd_b]
    rw [im_t (by omega)]
  have Ga : mp_go 1 S (wd_i Sa 146 c x) := mp_g1 (fun F => by rw [mp_pop (t := t + 8) hm (by omega) F, s8, s8', if_neg (by decide), if_neg (by decide), if_pos (by decide)]) hcode
  have oB : of_f (fun a b => a = 146 ∧ b = c) Sa (wd_i Sa 146 c x) := of_i ⟨rfl, rfl⟩ of_refl
  have oP : of_f mw_35 S (wd_i S 135 35 (Int32.ofNat (t + 8))) := of_i ⟨rfl, rfl⟩ of_refl
  have OB : of_f (mp_W f m t k u c l H) S (wd_i Sa 146 c x) := mp_of_f2 (mw_nm (by omega) (fun a b z => by omega)) (mp_of_f2 (mw_me (Nat.le_refl _)) (of_mono mw_35_W oP) oa) oB
  have e146 : (wd_i Sa 146 c x).1 146 c = x := fr_eq
  have keep1 : ∀ a b, ¬(a = 135 ∧ ((3 ≤ b ∧ b ≤ 10) ∨ b = 35)) → ¬(a = 139) → ¬(a = 142) → ¬(a = 146 ∧ b = c) → (wd_i Sa 146 c x).1 a b = S.1 a b := fun a b h1 h2 h3 h4 => by
    rw [oB.1 a b h4, oa.1 a b (by unfold me_W nx_W; omega), oP.1 a b (by unfold mw_35; omega)]
  cases q1 : ps_new (tk_K T n) false (decide (16 ≤ m)) (i + 1) with
  | error e =>
    rw [q1] at ra
    exact ⟨1, _, Ga, OB, mt_e_o ra (oB.1 135 9 (by omega)) (oB.1 135 10 (by omega)), by omega⟩
  | ok i2 =>
    rw [q1] at ra
    obtain ⟨rx, ma, va⟩ := ra
    obtain ⟨q1a, -, q1b⟩ := ps_new_ok q1
    have q1b := of_decide_eq_false q1b
    obtain ⟨t1, t2, rfl, t4⟩ := ps_take_ok q1a
    have mb := mh_w oB (fun a b z => by omega) ma
    have vb : (wd_i Sa 146 c x).2.1 142 (16 * f + m) = tk_V T n (i + 1) := va
    have e146 : (wd_i Sa 146 c x).1 146 c = Int32.ofNat m := e146.trans rx
    generalize wd_i Sa 146 c x = Sb at mb vb Ga OB e146 keep1
    -- =
    obtain ⟨Sc, Gc, oc, rc⟩ := mp_want (t := t + 7) (kd := 14) h8 mb (by omega) (by rw [keep1 _ _ (by omega) (by omega) (by omega) (by omega)]; exact s7) (by rw [keep1 _ _ (by omega) (by omega) (by omega) (by omega)]; exact s7') (by decide) (by decide)
    have Oc : of_f (mp_W f m t k u c l H) S Sc := mp_of_f2 mw_want OB oc
    show ∃ g S', mp_go g S S' ∧ of_f (mp_W f m t k u c l H) S S' ∧ (match (ps_b (ps_take (tk_K T n) 14 (i + 1 + 1)) fun i3 => ps_b (self sc i3 (m + 1)) fun q => ps_b (ps_take (tk_K T n) 13 q.2.2.2.1) fun i4 => ps_b (self ((tk_V T n (i + 1), m) :: sc) i4 q.2.2.2.2) fun r => .ok (tr_2 3 (Int32.ofNat m) (i + 1) q.1 r.1, q.2.1 ++ r.2.1, 1 + q.2.2.1 + r.2.2.1, r.2.2.2.1, r.2.2.2.2) : Except ps_E ps_O) with
      | .error e => mt_e T n e S' ∧ g + 2 ≤ 12 * (1501 - i)
      | .ok q => g + 2 ≤ 12 * (q.2.2.2.1 - i) ∧ ∃ l', l ≤ l' ∧ l' + i ≤ l + q.2.2.2.1 ∧ mh_g T n f q.2.2.2.2 t (k + 1) u (c + q.2.2.1) l' w q.2.2.2.1 S' ∧ ∃ y, S'.1 155 k = Int32.ofNat y ∧ mr_t T n f S' c (c + q.2.2.1) l l' m q.2.2.2.2 (d + 1) y q.1)
    cases q2 : ps_take (tk_K T n) 14 (i + 1 + 1) with
    | error e =>
      rw [q2] at rc
      exact ⟨1 + 1, Sc, mp_got Ga Gc, Oc, rc, by omega⟩
    | ok i3 =>
      rw [q2] at rc
      obtain ⟨t5, t6, rfl, t8⟩ := ps_take_ok q2
      have keep2 : ∀ a b, ¬(a = 135 ∧ ((3 ≤ b ∧ b ≤ 10) ∨ b = 35)) → ¬(a = 139) → ¬(a = 142) → ¬(a = 146 ∧ b = c) → Sc.1 a b = S.1 a b := fun a b h1 h2 h3 h4 => by
        rw [oc.1 a b (by unfold nx_W mw_35; omega)]; exact keep1 a b h1 h2 h3 h4
      have c146 : Sc.1 146 c = Int32.ofNat m := by rw [oc.1 146 c (by unfold nx_W mw_35; omega)]; exact e146
      have c142 : Sc.2.1 142 (16 * f + m) = tk_V T n (i + 1) := by rw [oc.2.1 142 _ (by unfold nx_W mw_35; omega)]; exact vb
      obtain ⟨gd, Sd, Gd, Od, Rd⟩ := hE sc (i + 1 + 1 + 1) (m + 1) (t + 6) k u (c + 1) l (w + 1) Sc rc (by rw [keep2 _ _ (by omega) (by omega) (by omega) (by omega)]; exact s6) (by omega) (by omega) (by omega) (by omega) (by omega) b6
      have OD : of_f (mp_W f m t k u c l H) S Sd := mp_of_f2 (mp_le (Nat.le_succ _) (by omega) (Nat.le_refl _) (Nat.le_refl _) (Nat.le_succ _) (Nat.le_refl _)) Oc Od
      show ∃ g S', mp_go g S S' ∧ of_f (mp_W f m t k u c l H) S S' ∧ (match (ps_b (self sc (i + 1 + 1 + 1) (m + 1)) fun q => ps_b (ps_take (tk_K T n) 13 q.2.2.2.1) fun i4 => ps_b (self ((tk_V T n (i + 1), m) :: sc) i4 q.2.2.2.2) fun r => .ok (tr_2 3 (Int32.ofNat m) (i + 1) q.1 r.1, q.2.1 ++ r.2.1, 1 + q.2.2.1 + r.2.2.1, r.2.2.2.1, r.2.2.2.2) : Except ps_E ps_O) with
        | .error e => mt_e T n e S' ∧ g + 2 ≤ 12 * (1501 - i)
        | .ok q => g + 2 ≤ 12 * (q.2.2.2.1 - i) ∧ ∃ l', l ≤ l' ∧ l' + i ≤ l + q.2.2.2.1 ∧ mh_g T n f q.2.2.2.2 t (k + 1) u (c + q.2.2.1) l' w q.2.2.2.1 S' ∧ ∃ y, S'.1 155 k = Int32.ofNat y ∧ mr_t T n f S' c (c + q.2.2.1) l l' m q.2.2.2.2 (d + 1) y q.1)
      cases q3 : self sc (i + 1 + 1 + 1) (m + 1) with
      | error e =>
        rw [q3] at Rd
        exact ⟨1 + 1 + gd, Sd, mp_got (mp_got Ga Gc) Gd, OD, Rd.1, by have := Rd.2; omega⟩
      | ok q =>
        rw [q3] at Rd
        obtain ⟨gc1, l1, L1, L2, Md, y1, Y1, D1⟩ := Rd
        obtain ⟨p1, p2, p3, p4, p5, p6, p7, -⟩ := hgd _ _ _ q q3
        have keep3 : ∀ a b, (a = 152 ∨ a = 153) → b < t + 6 → Sd.1 a b = S.1 a b := fun a b h1 h2 => by
          rw [Od.1 a b (mp_W_n (by omega))]; exact keep2 a b (by omega) (by omega) (by omega) (by omega)
        have keepc : ∀ a, 143 ≤ a → a ≤ 147 → Sd.1 a c = Sc.1 a c := fun a h1 h2 => Od.1 a c (mp_W_n (by omega))
        have d142 : Sd.2.1 142 (16 * f + m) = tk_V T n (i + 1) := by rw [Od.2.1 142 _ (mp_W_n (by omega))]; exact c142
        -- the first part
        obtain ⟨Se, Ge, me, Ve, oe⟩ := me_part (t := t + 5) (A := 144) (s := 15) (Or.inl ⟨rfl, rfl⟩) Md (by omega) (by omega) (show c < 15010 by omega) (by rw [keep3 _ _ (by omega) (by omega)]; exact s5) (by rw [keep3 _ _ (by omega) (by omega)]; exact s5') Y1
        have OE : of_f (mp_W f m t k u c l H) S Se := mp_of_f2 (mw_nm (by omega) (fun a b z => by omega)) OD oe
        -- in
        obtain ⟨Sf, Gf, of', rf⟩ := mp_want (t := t + 4) (kd := 13) h8 me (by omega) (by rw [oe.1 152 _ (by omega), keep3 _ _ (by omega) (by omega)]; exact s4) (by rw [oe.1 153 _ (by omega), keep3 _ _ (by omega) (by omega)]; exact s4') (by decide) (by decide)
        have OF : of_f (mp_W f m t k u c l H) S Sf := mp_of_f2 mw_want OE of'
        show ∃ g S', mp_go g S S' ∧ of_f (mp_W f m t k u c l H) S S' ∧ (match (ps_b (ps_take (tk_K T n) 13 q.2.2.2.1) fun i4 => ps_b (self ((tk_V T n (i + 1), m) :: sc) i4 q.2.2.2.2) fun r => .ok (tr_2 3 (Int32.ofNat m) (i + 1) q.1 r.1, q.2.1 ++ r.2.1, 1 + q.2.2.1 + r.2.2.1, r.2.2.2.1, r.2.2.2.2) : Except ps_E ps_O) with
          | .error e => mt_e T n e S' ∧ g + 2 ≤ 12 * (1501 - i)
          | .ok q => g + 2 ≤ 12 * (q.2.2.2.1 - i) ∧ ∃ l', l ≤ l' ∧ l' + i ≤ l + q.2.2.2.1 ∧ mh_g T n f q.2.2.2.2 t (k + 1) u (c + q.2.2.1) l' w q.2.2.2.1 S' ∧ ∃ y, S'.1 155 k = Int32.ofNat y ∧ mr_t T n f S' c (c + q.2.2.1) l l' m q.2.2.2.2 (d + 1) y q.1)
        cases q4 : ps_take (tk_K T n) 13 q.2.2.2.1 with
        | error e =>
          rw [q4] at rf
          exact ⟨1 + 1 + gd + 1 + 1, Sf, mp_got (mp_got (mp_got (mp_got Ga Gc) Gd) Ge) Gf, OF, rf, by omega⟩
        | ok i4 =>
          rw [q4] at rf
          obtain ⟨-, t9, rfl, -⟩ := ps_take_ok q4
          have keep4 : ∀ a b, (a = 152 ∨ a = 153) → b < t + 6 → Sf.1 a b = S.1 a b := fun a b h1 h2 => by
            rw [of'.1 a b (by unfold nx_W mw_35; omega), oe.1 a b (by omega)]; exact keep3 a b h1 h2
          obtain ⟨gg, Sg, Gg, Og, Rg⟩ := hE ((tk_V T n (i + 1), m) :: sc) (q.2.2.2.1 + 1) q.2.2.2.2 (t + 3) k u (c + 1 + q.2.2.1) l1 (w + 1) Sf rf (by rw [keep4 _ _ (by omega) (by omega)]; exact s3) (by omega) (by omega) (by omega) (by omega) (by omega) b6
          have OG : of_f (mp_W f m t k u c l H) S Sg := mp_of_f2 (mp_le (by omega) (by omega) (Nat.le_refl _) (Nat.le_refl _) (by omega) L1) OF Og
          have G5 := mp_got (mp_got (mp_got (mp_got (mp_got Ga Gc) Gd) Ge) Gf) Gg
          show ∃ g S', mp_go g S S' ∧ of_f (mp_W f m t k u c l H) S S' ∧ (match (ps_b (self ((tk_V T n (i + 1), m) :: sc) (q.2.2.2.1 + 1) q.2.2.2.2) fun r => .ok (tr_2 3 (Int32.ofNat m) (i + 1) q.1 r.1, q.2.1 ++ r.2.1, 1 + q.2.2.1 + r.2.2.1, r.2.2.2.1, r.2.2.2.2) : Except ps_E ps_O) with
            | .error e => mt_e T n e S' ∧ g + 2 ≤ 12 * (1501 - i)
            | .ok q => g + 2 ≤ 12 * (q.2.2.2.1 - i) ∧ ∃ l', l ≤ l' ∧ l' + i ≤ l + q.2.2.2.1 ∧ mh_g T n f q.2.2.2.2 t (k + 1) u (c + q.2.2.1) l' w q.2.2.2.1 S' ∧ ∃ y, S'.1 155 k = Int32.ofNat y ∧ mr_t T n f S' c (c + q.2.2.1) l l' m q.2.2.2.2 (d + 1) y q.1)
          cases q5 : self ((tk_V T n (i + 1), m) :: sc) (q.2.2.2.1 + 1) q.2.2.2.2 with
          | error e =>
            rw [q5] at Rg
            exact ⟨_, Sg, G5, OG, Rg.1, by have := Rg.2; omega⟩
          | ok r' =>
            rw [q5] at Rg
            obtain ⟨gc2, l2, L3, L4, Mg, y2, Y2, D2⟩ := Rg
            obtain ⟨j1, j2, j3, j4, j5, j6, j7, -⟩ := hgd _ _ _ r' q5
            have keep5 : ∀ a b, (a = 152 ∨ a = 153) → b < t + 3 → Sg.1 a b = S.1 a b := fun a b h1 h2 => by
              rw [Og.1 a b (mp_W_n (by omega))]; exact keep4 a b h1 (by omega)
            obtain ⟨Sh, Gh, mh, Vh, oh⟩ := me_part (t := t + 2) (A := 145) (s := 16) (Or.inr (Or.inl ⟨rfl, rfl⟩)) Mg (by omega) (by omega) (show c < 15010 by omega) (by rw [keep5 _ _ (by omega) (by omega)]; exact s2) (by rw [keep5 _ _ (by omega) (by omega)]; exact s2') Y2
            have OH : of_f (mp_W f m t k u c l H) S Sh := mp_of_f2 (mw_nm (by omega) (fun a b z => by omega)) OG oh
            obtain ⟨Si, Gi, mi, Vi, oi⟩ := me_put (x := c) mh (by omega) (by omega) (by rw [oh.1 152 _ (by omega), keep5 _ _ (by omega) (by omega)]; exact s1) (by rw [oh.1 153 _ (by omega), keep5 _ _ (by omega) (by omega)]; exact s1') (by rw [oh.1 152 _ (by omega), keep5 _ _ (by omega) (by omega)]; exact s0)
            have OI : of_f (mp_W f m t k u c l H) S Si := mp_of_f2 (mw_nm (by omega) (fun a b z => by omega)) OH oi
            have hMi : mh_g T n f r'.2.2.2.2 t (k + 1) u (c + (1 + q.2.2.1 + r'.2.2.1)) l2 w r'.2.2.2.1 Si := by
              rw [show c + (1 + q.2.2.1 + r'.2.2.1) = c + 1 + q.2.2.1 + r'.2.2.1 by omega]
              exact mi
            refine ⟨_, Si, mp_got (mp_got G5 Gh) Gi, OI, ?_, l2, by omega, ?_, hMi, c, Vi, Nat.le_refl _, ?_, ?_⟩
            · show 1 + 1 + gd + 1 + 1 + gg + 1 + 2 + 2 ≤ 12 * (r'.2.2.2.1 - i)
              omega
            · show l2 + i ≤ l + r'.2.2.2.1
              omega
            · show c < c + (1 + q.2.2.1 + r'.2.2.1)
              omega
            · have rc : ∀ a, 143 ≤ a → a ≤ 147 → a ≠ 144 → a ≠ 145 → Si.1 a c = Sc.1 a c := fun a h1 h2 h3 h4 => by
                rw [oi.1 a c (by omega), oh.1 a c (by omega), Og.1 a c (mp_W_n (by omega)), of'.1 a c (by unfold nx_W mw_35; omega), oe.1 a c (by omega)]
                exact keepc a h1 h2
              have r144 : Si.1 144 c = Int32.ofNat y1 := by
                rw [oi.1 144 c (by omega), oh.1 144 c (by omega), Og.1 144 c (mp_W_n (by omega)), of'.1 144 c (by unfold nx_W mw_35; omega)]
                exact Ve
              have r145 : Si.1 145 c = Int32.ofNat y2 := by
                rw [oi.1 145 c (by omega)]
                exact Vh
              have r142 : Si.2.1 142 (16 * f + m) = tk_V T n (i + 1) := by
                rw [oi.2.1 142 _ (by omega), oh.2.1 142 _ (by omega), Og.2.1 142 _ (mp_W_n (by omega)), of'.2.1 142 _ (by unfold nx_W mw_35; omega), oe.2.1 142 _ (by omega)]
                exact d142
              have x143 : Si.1 143 c = 3 := by
                rw [rc 143 (by omega) (by omega) (by omega) (by omega), keep2 143 c (by omega) (by omega) (by omega) (by omega)]
                exact h143
              have g1 : mr_g f (c + 1) (c + 1 + q.2.2.1) l l1 (m + 1) q.2.2.2.2 Sd Sf := mr_g_t (mr_g_o oe (fun a x y1 y2 y3 y4 => by omega) (fun x y1 y2 => by omega) (fun x y1 y2 => by omega)) (mr_g_o of' (fun a x y1 y2 y3 y4 => by unfold nx_W mw_35; omega) (fun x y1 y2 => by unfold nx_W mw_35; omega) (fun x y1 y2 => by unfold nx_W mw_35; omega))
              have g2 : mr_g f (c + 1) (c + 1 + q.2.2.1) l l1 (m + 1) q.2.2.2.2 Sf Sg := mr_g_W Og (Nat.le_refl _) (Nat.le_refl _) (Nat.le_refl _)
              have g3 : ∀ lo hi al ah nl nh, c + 1 ≤ lo → mr_g f lo hi al ah nl nh Sg Si := fun lo hi al ah nl nh hh => mr_g_t (mr_g_o oh (fun a x y1 y2 y3 y4 => by omega) (fun x y1 y2 => by omega) (fun x y1 y2 => by omega)) (mr_g_o oi (fun a x y1 y2 y3 y4 => by omega) (fun x y1 y2 => by omega) (fun x y1 y2 => by omega))
              refine Or.inr (Or.inr (Or.inl ⟨rfl, rfl, x143, ?_, ⟨m, rfl, Nat.le_refl _, by show m < r'.2.2.2.2; omega, r142⟩, y1, y2, c + 1, c + 1 + q.2.2.1, c + 1 + q.2.2.1 + r'.2.2.1, r144, r145, Nat.lt_succ_self c, ?_, ?_, by show c + 1 + q.2.2.1 + r'.2.2.1 ≤ c + (1 + q.2.2.1 + r'.2.2.1); omega⟩))
              · rw [rc 146 (by omega) (by omega) (by omega) (by omega)]
                exact c146
              · exact mr_t_m (Nat.le_refl _) (Nat.le_refl _) (Nat.le_refl _) (by omega) (Nat.le_succ _) j3 (mr_g_t (mr_g_t g1 g2) (g3 _ _ _ _ _ _ (Nat.le_refl _))) _ _ _ D1
              · exact mr_t_m (Nat.le_refl _) (Nat.le_refl _) L1 (Nat.le_refl _) (by omega) (Nat.le_refl _) (g3 _ _ _ _ _ _ (by omega)) _ _ _ D2
end Mf
