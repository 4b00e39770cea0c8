/-! The reference: if. -/
section Mi
variable {T : Nat → Int32} {H n f r d m t k u c l w i : Nat} {S S' S1 : wd_S} {e : ps_E} {self : ps_P} {sc : List (Int64 × Nat)}
/-- an if whose word is taken -/
theorem mi_if (h8 : n ≤ 8000) (hE : ∀ sc, mp_C T n f H r 0 0 d 1 4 (self sc)) (hgd : ∀ sc i m q, self sc i m = .ok q → ps_good (tk_K T n) d i m q) (hm : mh_g T n f m (t + 10) k u (c + 1) l (w + 1) (i + 1) S) (hs : mh_s t [(5, 0), (18, Int32.ofNat c), (17, Int32.ofNat c), (4, 0), (1, 4), (16, Int32.ofNat c), (4, 0), (1, 3), (15, Int32.ofNat c), (4, 0)] S) (b1 : t + 12 * r + 12 ≤ 300) (b2 : k + 4 * r + 4 ≤ 100) (b3 : u ≤ i) (b4 : c + 1501 ≤ H + i) (b5 : l + 1501 ≤ H + i) (b6 : w + 1 + r = 24 ∧ H ≤ 3002) (hi : i < 1500) (h143 : S.1 143 c = 2) : ∃ g S', mp_go g S S' ∧ of_f (mp_W f m t k u c l H) S S' ∧ match (ps_b (self sc (i + 1) m) fun q => ps_b (ps_take (tk_K T n) 11 q.2.2.2.1) fun i2 => ps_b (self sc i2 q.2.2.2.2) fun r => ps_b (ps_take (tk_K T n) 12 r.2.2.2.1) fun i3 => ps_b (self sc i3 r.2.2.2.2) fun s => .ok (tr_3 4 0 0 q.1 r.1 s.1, q.2.1 ++ (r.2.1 ++ s.2.1), 1 + q.2.2.1 + r.2.2.1 + s.2.2.1, s.2.2.2.1, s.2.2.2.2) : Except ps_E ps_O) with
      | .error e => mt_e T n e S' ∧ g + 2 ≤ 12 * (1501 - i)
      | .ok q => g + 2 ≤ 12 * (q.2.2.2.1 - i) ∧ ∃ l', l ≤ l' ∧ l' + i ≤ l + q.2.2.2.1 ∧ mh_g T n f q.2.2.2.2 t (k + 1) u (c + q.2.2.1) l' w q.2.2.2.1 S' ∧ ∃ y, S'.1 155 k = Int32.ofNat y ∧ mr_t T n f S' c (c + q.2.2.1) l l' m q.2.2.2.2 (d + 1) y q.1 := by
  have s0 : S.1 152 t = 5 := (hs 0 (show 0 < 10 by decide)).1
  have s1 : S.1 152 (t + 1) = 18 := (hs 1 (show 1 < 10 by decide)).1
  have s1' : S.1 153 (t + 1) = Int32.ofNat c := (hs 1 (show 1 < 10 by decide)).2
  have s2 : S.1 152 (t + 2) = 17 := (hs 2 (show 2 < 10 by decide)).1
  have s2' : S.1 153 (t + 2) = Int32.ofNat c := (hs 2 (show 2 < 10 by decide)).2
  have s3 : S.1 152 (t + 3) = 4 := (hs 3 (show 3 < 10 by decide)).1
  have s4 : S.1 152 (t + 4) = 1 := (hs 4 (show 4 < 10 by decide)).1
  have s4' : S.1 153 (t + 4) = lx_cv 12 := (hs 4 (show 4 < 10 by decide)).2
  have s5 : S.1 152 (t + 5) = 16 := (hs 5 (show 5 < 10 by decide)).1
  have s5' : S.1 153 (t + 5) = Int32.ofNat c := (hs 5 (show 5 < 10 by decide)).2
  have s6 : S.1 152 (t + 6) = 4 := (hs 6 (show 6 < 10 by decide)).1
  have s7 : S.1 152 (t + 7) = 1 := (hs 7 (show 7 < 10 by decide)).1
  have s7' : S.1 153 (t + 7) = lx_cv 11 := (hs 7 (show 7 < 10 by decide)).2
  have s8 : S.1 152 (t + 8) = 15 := (hs 8 (show 8 < 10 by decide)).1
  have s8' : S.1 153 (t + 8) = Int32.ofNat c := (hs 8 (show 8 < 10 by decide)).2
  have s9 : S.1 152 (t + 9) = 4 := (hs 9 (show 9 < 10 by decide)).1
  obtain ⟨ga, Sa, Ga, Oa, Ra⟩ := hE sc (i + 1) m (t + 9) k u (c + 1) l (w + 1) S hm s9 (by omega) (by omega) (by omega) (by omega) (by omega) b6
  have OA : of_f (mp_W f m t k u c l H) S Sa := of_mono (mp_le (Nat.le_refl _) (by omega) (Nat.le_refl _) (Nat.le_refl _) (Nat.le_succ _) (Nat.le_refl _)) Oa
  cases q1 : self sc (i + 1) m with
  | error e =>
    rw [q1] at Ra
    exact ⟨ga, Sa, Ga, OA, Ra.1, by have := Ra.2; omega⟩
  | ok q =>
    rw [q1] at Ra
    obtain ⟨gc1, l1, L1, L2, Ma, y1, Y1, D1⟩ := Ra
    obtain ⟨p1, p2, p3, p4, p5, p6, p7, -⟩ := hgd _ _ _ q q1
    have keep1 : ∀ a b, (a = 152 ∨ a = 153) → b < t + 9 → Sa.1 a b = S.1 a b := fun a b h1 h2 => Oa.1 a b (mp_W_n (by omega))
    obtain ⟨Sb, Gb, mb, Vb, ob⟩ := me_part (t := t + 8) (A := 144) (s := 15) (Or.inl ⟨rfl, rfl⟩) Ma (by omega) (by omega) (show c < 15010 by omega) (by rw [keep1 _ _ (by omega) (by omega)]; exact s8) (by rw [keep1 _ _ (by omega) (by omega)]; exact s8') Y1
    have OB : of_f (mp_W f m t k u c l H) S Sb := mp_of_f2 (mw_nm (by omega) (fun a b z => by omega)) OA ob
    obtain ⟨Sc, Gc, oc, rc⟩ := mp_want (t := t + 7) (kd := 11) h8 mb (by omega) (by rw [ob.1 152 _ (by omega), keep1 _ _ (by omega) (by omega)]; exact s7) (by rw [ob.1 153 _ (by omega), keep1 _ _ (by omega) (by omega)]; exact s7') (by decide) (by decide)
    have OC : of_f (mp_W f m t k u c l H) S Sc := mp_of_f2 mw_want OB oc
    show ∃ g S', mp_go g S S' ∧ of_f (mp_W f m t k u c l H) S S' ∧ (match (ps_b (ps_take (tk_K T n) 11 q.2.2.2.1) fun i2 => ps_b (self sc i2 q.2.2.2.2) fun r => ps_b (ps_take (tk_K T n) 12 r.2.2.2.1) fun i3 => ps_b (self sc i3 r.2.2.2.2) fun s => .ok (tr_3 4 0 0 q.1 r.1 s.1, q.2.1 ++ (r.2.1 ++ s.2.1), 1 + q.2.2.1 + r.2.2.1 + s.2.2.1, s.2.2.2.1, s.2.2.2.2) : Except ps_E ps_O) with
      | .error e => mt_e T n e S' ∧ g + 2 ≤ 12 * (1501 - i)
      | .ok q => g + 2 ≤ 12 * (q.2.2.2.1 - i) ∧ ∃ l', l ≤ l' ∧ l' + i ≤ l + q.2.2.2.1 ∧ mh_g T n f q.2.2.2.2 t (k + 1) u (c + q.2.2.1) l' w q.2.2.2.1 S' ∧ ∃ y, S'.1 155 k = Int32.ofNat y ∧ mr_t T n f S' c (c + q.2.2.1) l l' m q.2.2.2.2 (d + 1) y q.1)
    cases q2 : ps_take (tk_K T n) 11 q.2.2.2.1 with
    | error e =>
      rw [q2] at rc
      exact ⟨ga + 1 + 1, Sc, mp_got (mp_got Ga Gb) Gc, OC, rc, by omega⟩
    | ok i2 =>
      rw [q2] at rc
      obtain ⟨-, t2, rfl, -⟩ := ps_take_ok q2
      have keep2 : ∀ a b, (a = 152 ∨ a = 153) → b < t + 9 → Sc.1 a b = S.1 a b := fun a b h1 h2 => by
        rw [oc.1 a b (by unfold nx_W mw_35; omega), ob.1 a b (by omega)]; exact keep1 a b h1 h2
      obtain ⟨gd, Sd, Gd, Od, Rd⟩ := hE sc (q.2.2.2.1 + 1) q.2.2.2.2 (t + 6) k u (c + 1 + q.2.2.1) l1 (w + 1) Sc rc (by rw [keep2 _ _ (by omega) (by omega)]; exact s6) (by omega) (by omega) (by omega) (by omega) (by omega) b6
      have OD : of_f (mp_W f m t k u c l H) S Sd := mp_of_f2 (mp_le p3 (by omega) (Nat.le_refl _) (Nat.le_refl _) (by omega) L1) OC Od
      have G3 := mp_got (mp_got (mp_got Ga Gb) Gc) Gd
      show ∃ g S', mp_go g S S' ∧ of_f (mp_W f m t k u c l H) S S' ∧ (match (ps_b (self sc (q.2.2.2.1 + 1) q.2.2.2.2) fun r => ps_b (ps_take (tk_K T n) 12 r.2.2.2.1) fun i3 => ps_b (self sc i3 r.2.2.2.2) fun s => .ok (tr_3 4 0 0 q.1 r.1 s.1, q.2.1 ++ (r.2.1 ++ s.2.1), 1 + q.2.2.1 + r.2.2.1 + s.2.2.1, s.2.2.2.1, s.2.2.2.2) : Except ps_E ps_O) with
      | .error e => mt_e T n e S' ∧ g + 2 ≤ 12 * (1501 - i)
      | .ok q => g + 2 ≤ 12 * (q.2.2.2.1 - i) ∧ ∃ l', l ≤ l' ∧ l' + i ≤ l + q.2.2.2.1 ∧ mh_g T n f q.2.2.2.2 t (k + 1) u (c + q.2.2.1) l' w q.2.2.2.1 S' ∧ ∃ y, S'.1 155 k = Int32.ofNat y ∧ mr_t T n f S' c (c + q.2.2.1) l l' m q.2.2.2.2 (d + 1) y q.1)
      cases q3 : self sc (q.2.2.2.1 + 1) q.2.2.2.2 with
      | error e =>
        rw [q3] at Rd
        exact ⟨_, Sd, G3, OD, Rd.1, by have := Rd.2; omega⟩
      | ok r =>
        rw [q3] at Rd
        obtain ⟨gc2, l2, L3, L4, Md, y2, Y2, D2⟩ := Rd
        obtain ⟨j1, j2, j3, j4, j5, j6, j7, -⟩ := hgd _ _ _ r q3
        have keep3 : ∀ a b, (a = 152 ∨ a = 153) → b < t + 6 → Sd.1 a b = S.1 a b := fun a b h1 h2 => by
          rw [Od.1 a b (mp_W_n (by omega))]; exact keep2 a b h1 (by omega)
        obtain ⟨Se, Ge, me, Ve, oe⟩ := me_part (t := t + 5) (A := 145) (s := 16) (Or.inr (Or.inl ⟨rfl, rfl⟩)) Md (by omega) (by omega) (show c < 15010 by omega) (by rw [keep3 _ _ (by omega) (by omega)]; exact s5) (by rw [keep3 _ _ (by omega) (by omega)]; exact s5') Y2
        have OE : of_f (mp_W f m t k u c l H) S Se := mp_of_f2 (mw_nm (by omega) (fun a b z => by omega)) OD oe
        obtain ⟨Sf, Gf, of', rf⟩ := mp_want (t := t + 4) (kd := 12) h8 me (by omega) (by rw [oe.1 152 _ (by omega), keep3 _ _ (by omega) (by omega)]; exact s4) (by rw [oe.1 153 _ (by omega), keep3 _ _ (by omega) (by omega)]; exact s4') (by decide) (by decide)
        have OF : of_f (mp_W f m t k u c l H) S Sf := mp_of_f2 mw_want OE of'
        have G5 := mp_got (mp_got G3 Ge) Gf
        show ∃ g S', mp_go g S S' ∧ of_f (mp_W f m t k u c l H) S S' ∧ (match (ps_b (ps_take (tk_K T n) 12 r.2.2.2.1) fun i3 => ps_b (self sc i3 r.2.2.2.2) fun s => .ok (tr_3 4 0 0 q.1 r.1 s.1, q.2.1 ++ (r.2.1 ++ s.2.1), 1 + q.2.2.1 + r.2.2.1 + s.2.2.1, s.2.2.2.1, s.2.2.2.2) : Except ps_E ps_O) with
      | .error e => mt_e T n e S' ∧ g + 2 ≤ 12 * (1501 - i)
      | .ok q => g + 2 ≤ 12 * (q.2.2.2.1 - i) ∧ ∃ l', l ≤ l' ∧ l' + i ≤ l + q.2.2.2.1 ∧ mh_g T n f q.2.2.2.2 t (k + 1) u (c + q.2.2.1) l' w q.2.2.2.1 S' ∧ ∃ y, S'.1 155 k = Int32.ofNat y ∧ mr_t T n f S' c (c + q.2.2.1) l l' m q.2.2.2.2 (d + 1) y q.1)
        cases q4 : ps_take (tk_K T n) 12 r.2.2.2.1 with
        | error e =>
          rw [q4] at rf
          exact ⟨_, Sf, G5, OF, rf, by omega⟩
        | ok i3 =>
          rw [q4] at rf
          obtain ⟨-, t9, rfl, -⟩ := ps_take_ok q4
          have keep4 : ∀ a b, (a = 152 ∨ a = 153) → b < t + 6 → Sf.1 a b = S.1 a b := fun a b h1 h2 => by
            rw [of'.1 a b (by unfold nx_W mw_35; omega), oe.1 a b (by omega)]; exact keep3 a b h1 h2
          obtain ⟨gg, Sg, Gg, Og, Rg⟩ := hE sc (r.2.2.2.1 + 1) r.2.2.2.2 (t + 3) k u (c + 1 + q.2.2.1 + r.2.2.1) l2 (w + 1) Sf rf (by rw [keep4 _ _ (by omega) (by omega)]; exact s3) (by omega) (by omega) (by omega) (by omega) (by omega) b6
          have OG : of_f (mp_W f m t k u c l H) S Sg := mp_of_f2 (mp_le (by omega) (by omega) (Nat.le_refl _) (Nat.le_refl _) (by omega) (by omega)) OF Og
          have G6 := mp_got G5 Gg
          show ∃ g S', mp_go g S S' ∧ of_f (mp_W f m t k u c l H) S S' ∧ (match (ps_b (self sc (r.2.2.2.1 + 1) r.2.2.2.2) fun s => .ok (tr_3 4 0 0 q.1 r.1 s.1, q.2.1 ++ (r.2.1 ++ s.2.1), 1 + q.2.2.1 + r.2.2.1 + s.2.2.1, s.2.2.2.1, s.2.2.2.2) : Except ps_E ps_O) with
      | .error e => mt_e T n e S' ∧ g + 2 ≤ 12 * (1501 - i)
      | .ok q => g + 2 ≤ 12 * (q.2.2.2.1 - i) ∧ ∃ l', l ≤ l' ∧ l' + i ≤ l + q.2.2.2.1 ∧ mh_g T n f q.2.2.2.2 t (k + 1) u (c + q.2.2.1) l' w q.2.2.2.1 S' ∧ ∃ y, S'.1 155 k = Int32.ofNat y ∧ mr_t T n f S' c (c + q.2.2.1) l l' m q.2.2.2.2 (d + 1) y q.1)
          cases q5 : self sc (r.2.2.2.1 + 1) r.2.2.2.2 with
          | error e =>
            rw [q5] at Rg
            exact ⟨_, Sg, G6, OG, Rg.1, by have := Rg.2; omega⟩
          | ok s =>
            rw [q5] at Rg
            obtain ⟨gc3, l3, L5, L6, Mg, y3, Y3, D3⟩ := Rg
            obtain ⟨k1, k2, k3, k4, k5, k6, k7, -⟩ := hgd _ _ _ s q5
            have keep5 : ∀ a b, (a = 152 ∨ a = 153) → b < t + 3 → Sg.1 a b = S.1 a b := fun a b h1 h2 => by
              rw [Og.1 a b (mp_W_n (by omega))]; exact keep4 a b h1 (by omega)
            obtain ⟨Sh, Gh, mh, Vh, oh⟩ := me_part (t := t + 2) (A := 146) (s := 17) (Or.inr (Or.inr ⟨rfl, rfl⟩)) Mg (by omega) (by omega) (show c < 15010 by omega) (by rw [keep5 _ _ (by omega) (by omega)]; exact s2) (by rw [keep5 _ _ (by omega) (by omega)]; exact s2') Y3
            have OH : of_f (mp_W f m t k u c l H) S Sh := mp_of_f2 (mw_nm (by omega) (fun a b z => by omega)) OG oh
            obtain ⟨Si, Gi, mi, Vi, oi⟩ := me_put (x := c) mh (by omega) (by omega) (by rw [oh.1 152 _ (by omega), keep5 _ _ (by omega) (by omega)]; exact s1) (by rw [oh.1 153 _ (by omega), keep5 _ _ (by omega) (by omega)]; exact s1') (by rw [oh.1 152 _ (by omega), keep5 _ _ (by omega) (by omega)]; exact s0)
            have OI : of_f (mp_W f m t k u c l H) S Si := mp_of_f2 (mw_nm (by omega) (fun a b z => by omega)) OH oi
            have hMi : mh_g T n f s.2.2.2.2 t (k + 1) u (c + (1 + q.2.2.1 + r.2.2.1 + s.2.2.1)) l3 w s.2.2.2.1 Si := by
              rw [show c + (1 + q.2.2.1 + r.2.2.1 + s.2.2.1) = c + 1 + q.2.2.1 + r.2.2.1 + s.2.2.1 by omega]
              exact mi
            refine ⟨_, Si, mp_got (mp_got G6 Gh) Gi, OI, ?_, l3, by omega, ?_, hMi, c, Vi, Nat.le_refl _, ?_, ?_⟩
            · show ga + 1 + 1 + gd + 1 + 1 + gg + 1 + 2 + 2 ≤ 12 * (s.2.2.2.1 - i)
              omega
            · show l3 + i ≤ l + s.2.2.2.1
              omega
            · show c < c + (1 + q.2.2.1 + r.2.2.1 + s.2.2.1)
              omega
            · have r144 : Si.1 144 c = Int32.ofNat y1 := by
                rw [oi.1 144 c (by omega), oh.1 144 c (by omega), Og.1 144 c (mp_W_n (by omega)), of'.1 144 c (by unfold nx_W mw_35; omega), oe.1 144 c (by omega), Od.1 144 c (mp_W_n (by omega)), oc.1 144 c (by unfold nx_W mw_35; omega)]
                exact Vb
              have r145 : Si.1 145 c = Int32.ofNat y2 := by
                rw [oi.1 145 c (by omega), oh.1 145 c (by omega), Og.1 145 c (mp_W_n (by omega)), of'.1 145 c (by unfold nx_W mw_35; omega)]
                exact Ve
              have r146 : Si.1 146 c = Int32.ofNat y3 := by
                rw [oi.1 146 c (by omega)]
                exact Vh
              have x143 : Si.1 143 c = 2 := by
                rw [oi.1 143 c (by omega), oh.1 143 c (by omega), Og.1 143 c (mp_W_n (by omega)), of'.1 143 c (by unfold nx_W mw_35; omega), oe.1 143 c (by omega), Od.1 143 c (mp_W_n (by omega)), oc.1 143 c (by unfold nx_W mw_35; omega), ob.1 143 c (by omega), Oa.1 143 c (mp_W_n (by omega))]
                exact h143
              have g1 : mr_g f (c + 1) (c + 1 + q.2.2.1) l l1 m q.2.2.2.2 Sa Sc := mr_g_t (mr_g_o ob (fun a x y1 y2 y3 y4 => by omega) (fun x y1 y2 => by omega) (fun x y1 y2 => by omega)) (mr_g_o oc (fun a x y1 y2 y3 y4 => by unfold nx_W mw_35; omega) (fun x y1 y2 => by unfold nx_W mw_35; omega) (fun x y1 y2 => by unfold nx_W mw_35; omega))
              have g2 : mr_g f (c + 1) (c + 1 + q.2.2.1) l l1 m q.2.2.2.2 Sc Sd := mr_g_W Od (Nat.le_refl _) (Nat.le_refl _) (Nat.le_refl _)
              have g3 : ∀ lo hi al ah nl nh, c + 1 ≤ lo → mr_g f lo hi al ah nl nh Sd Sf := fun lo hi al ah nl nh hh => mr_g_t (mr_g_o oe (fun a x y1 y2 y3 y4 => by omega) (fun x y1 y2 => by omega) (fun x y1 y2 => by omega)) (mr_g_o of' (fun a x y1 y2 y3 y4 => by unfold nx_W mw_35; omega) (fun x y1 y2 => by unfold nx_W mw_35; omega) (fun x y1 y2 => by unfold nx_W mw_35; omega))
              have g4 : ∀ lo hi al ah nl nh, hi ≤ c + 1 + q.2.2.1 + r.2.2.1 → ah ≤ l2 → nh ≤ r.2.2.2.2 → mr_g f lo hi al ah nl nh Sf Sg := fun lo hi al ah nl nh h1 h2 h3 => mr_g_W Og h1 h2 h3
              have g5 : ∀ lo hi al ah nl nh, c + 1 ≤ lo → mr_g f lo hi al ah nl nh Sg Si := fun lo hi al ah nl nh hh => mr_g_t (mr_g_o oh (fun a x y1 y2 y3 y4 => by omega) (fun x y1 y2 => by omega) (fun x y1 y2 => by omega)) (mr_g_o oi (fun a x y1 y2 y3 y4 => by omega) (fun x y1 y2 => by omega) (fun x y1 y2 => by omega))
              refine Or.inr (Or.inr (Or.inr (Or.inl ⟨rfl, rfl, x143, y1, y2, y3, c + 1, c + 1 + q.2.2.1, c + 1 + q.2.2.1 + r.2.2.1, c + 1 + q.2.2.1 + r.2.2.1 + s.2.2.1, r144, r145, r146, Nat.lt_succ_self c, ?_, ?_, ?_, by show c + 1 + q.2.2.1 + r.2.2.1 + s.2.2.1 ≤ c + (1 + q.2.2.1 + r.2.2.1 + s.2.2.1); omega⟩)))
              · exact mr_t_m (Nat.le_refl _) (Nat.le_refl _) (Nat.le_refl _) (by omega) (Nat.le_refl _) (show q.2.2.2.2 ≤ s.2.2.2.2 by omega) (mr_g_t (mr_g_t g1 g2) (mr_g_t (g3 _ _ _ _ _ _ (Nat.le_refl _)) (mr_g_t (g4 _ _ _ _ _ _ (by omega) (by omega) (by omega)) (g5 _ _ _ _ _ _ (Nat.le_refl _))))) _ _ _ D1
              · exact mr_t_m (Nat.le_refl _) (Nat.le_refl _) L1 (by omega) p3 (show r.2.2.2.2 ≤ s.2.2.2.2 by omega) (mr_g_t (g3 _ _ _ _ _ _ (by omega)) (mr_g_t (g4 _ _ _ _ _ _ (Nat.le_refl _) (Nat.le_refl _) (Nat.le_refl _)) (g5 _ _ _ _ _ _ (by omega)))) _ _ _ D2
              · exact mr_t_m (Nat.le_refl _) (Nat.le_refl _) (by omega) (Nat.le_refl _) (by omega) (Nat.le_refl _) (g5 _ _ _ _ _ _ (by omega)) _ _ _ D3
end Mi
