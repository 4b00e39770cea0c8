/-! The reference: a part, a sign, a part. -/
def mp_R (T : Nat → Int32) (n f H m t k u c l w d β i : Nat) (S : wd_S) (r : Except ps_E ps_O) (g : Nat) (S' : wd_S) : Prop := of_f (mp_W f m t k u c l H) S S' ∧ match r with
  | .error e => mt_e T n e S' ∧ g + β ≤ 12 * (1501 - i)
  | .ok q => g + β ≤ 12 * (q.2.2.2.1 - i) ∧ ∃ l', l ≤ l' ∧ l' + i ≤ l + q.2.2.2.1 ∧ mh_g T n f q.2.2.2.2 t (k + 1) u (c + q.2.2.1) l' w q.2.2.2.1 S' ∧ ∃ y, S'.1 155 k = Int32.ofNat y ∧ mr_t T n f S' c (c + q.2.2.1) l l' m q.2.2.2.2 d y q.1
/-- with symbol s on top the loop does what p says -/
def mp_C (T : Nat → Int32) (n f H r bt bk d β : Nat) (s : Int32) (p : Nat → Nat → Except ps_E ps_O) : Prop := ∀ (i m t k u c l w : Nat) (S : wd_S), mh_g T n f m (t + 1) k u c l w i S → S.1 152 t = s → t + 12 * r + bt ≤ 300 → k + 4 * r + bk ≤ 100 → u ≤ i → c + 1501 ≤ H + i → l + 1501 ≤ H + i → w + r = 24 ∧ H ≤ 3002 → ∃ g S', mp_go g S S' ∧ mp_R T n f H m t k u c l w d β i S (p i m) g S'
section M2
variable {T : Nat → Int32} {H n f r bt bk d β m t k u c l w i : Nat} {S S' S1 : wd_S} {X Y : Int32} {e : ps_E} {p : Nat → Nat → Except ps_E ps_O} {h : Int32 → Bool}
/-- a sign that goes on -/
def mp_Y (T : Nat → Int32) (n : Nat) (X Y : Int32) (h : Int32 → Bool) : Prop := ¬Y = 1 ∧ ¬Y = 4 ∧ ¬12 < Y ∧ (∀ k : Int32, h k = true → k = 6 ∨ k = 7 ∨ k = 8 ∨ k = 9 ∨ k = 10) ∧ ∀ (i : Nat) (v : Int32) (S : wd_S), mt_g T n i S → fn_Mo_onSum Y v S = if h (tk_K T n i) = true then wd_d (fn_Mo_push 12 (lx_cv (tk_K T n i)) S) fun S9 => wd_d (fn_Mo_push X 0 S9) fun S14 => wd_d (fn_Mo_pass S14) fun S17 => some S17 else some S
theorem mp_of_f2 {W W' : Nat → Nat → Prop} {S2 : wd_S} (hw : ∀ a b, W a b → W' a b) (h1 : of_f W' S S1) (h2 : of_f W S1 S2) : of_f W' S S2 := of_trans h1 (of_mono hw h2)
theorem mp_side (hm : mh_g T n f m (t + 1) (k + 2) u c l w i S) (h1 : S.1 152 t = 12) (ht : t < 4000) (hk : k + 2 < 1600) (hc : c < 3003) {y1 y2 : Nat} (e1 : S.1 155 k = Int32.ofNat y1) (e2 : S.1 155 (k + 1) = Int32.ofNat y2) (hy : y1 < c) : ∃ S', mp_go 1 S S' ∧ mh_g T n f m t (k + 1) u (c + 1) l w i S' ∧ S'.1 155 k = Int32.ofNat c ∧ S'.1 143 c = 1 ∧ S'.1 144 c = Int32.ofNat y1 ∧ S'.1 145 c = Int32.ofNat y2 ∧ S'.1 146 c = S.1 153 t ∧ of_f (fun a b => (a = 135 ∧ (b = 35 ∨ b = 37 ∨ b = 27)) ∨ (143 ≤ a ∧ a ≤ 147 ∧ b = c) ∨ (a = 155 ∧ b = k)) S S' := by
  have hp := mh_pop hm
  obtain ⟨S2, f2, g2, o2⟩ := mh_last (k := k + 1) hp (by omega)
  obtain ⟨S3, f3, g3, o3⟩ := mh_last (k := k) g2 (by omega)
  have e2' : (wd_i S 135 35 (Int32.ofNat t)).1 155 (k + 1) = Int32.ofNat y2 := by rw [fr_ne (by omega)]; exact e2
  have e1' : S2.1 155 k = Int32.ofNat y1 := by rw [o2.1 155 k (by unfold mw_37; omega), fr_ne (by omega)]; exact e1
  obtain ⟨S4, f4, g4, a4, b4, o4⟩ := mh_node (x := 1) (y := S3.1 147 y1) g3 hc
  have hin := ms_in (show c < 15010 by omega) (by decide)
  generalize hS5 : wd_i (wd_i (wd_i S4 144 c (Int32.ofNat y1)) 145 c (Int32.ofNat y2)) 146 c (S.1 153 t) = S5
  have o5 : of_f (fun a b => 144 ≤ a ∧ a ≤ 146 ∧ b = c) S4 S5 := by
    rw [← hS5]
    exact of_i (by omega) (of_i (by omega) (of_i (by omega) of_refl))
  have g5 : mh_g T n f m t k u (c + 1) l w i S5 := mh_w o5 (fun a b z => by omega) g4
  obtain ⟨S6, f6, g6, a6, o6⟩ := mh_keep (x := Int32.ofNat c) g5 (by omega)
  have hcode : fn_Mo_onSum 12 (S.1 153 t) (wd_i S 135 35 (Int32.ofNat t)) = some S6 := by
    unfold fn_Mo_onSum fn_Mo_onSum_248
    rw [if_neg (by decide), if_neg (by decide), if_neg (by decide), if_neg (by decide), if_pos rfl, f2, wd_c_s, f3, wd_c_s, e1', if_neg (ms_in (show y1 < 15010 by omega) (by decide)), im_t (by omega), f4, wd_c_s]
    simp only [wd_b]
    rw [if_neg hin, if_neg hin, if_neg hin, im_t (by omega), e2', hS5, f6, wd_d_s]
  refine ⟨S6, mp_g1 (fun F => by rw [mp_pop hm ht F, h1, if_neg (by decide), if_neg (by decide), if_neg (by decide)]) hcode, g6, a6, ?_, ?_, ?_, ?_, ?_⟩
  · rw [o6.1 143 c (by unfold mw_k; omega), o5.1 143 c (by omega)]; exact a4
  · rw [o6.1 144 c (by unfold mw_k; omega), ← hS5, fr_ne (by omega), fr_ne (by omega), fr_eq]
  · rw [o6.1 145 c (by unfold mw_k; omega), ← hS5, fr_ne (by omega), fr_eq]
  · rw [o6.1 146 c (by unfold mw_k; omega), ← hS5, fr_eq]
  · refine of_trans (of_i (by omega) of_refl) (of_trans (of_mono (fun a b z => by unfold mw_37 at z; omega) o2) (of_trans (of_mono (fun a b z => by unfold mw_37 at z; omega) o3) (of_trans (of_mono (fun a b z => by unfold mw_n at z; omega) o4) (of_trans (of_mono (fun a b z => by omega) o5) (of_mono (fun a b z => by unfold mw_k at z; omega) o6)))))
theorem mp_two (h8 : n ≤ 8000) (hY : mp_Y T n X Y h) (hX : ¬X = 12) (hp : mp_C T n f H r bt bk d β X p) (hgd : ∀ i m q, p i m = .ok q → ps_good (tk_K T n) d i m q) (hβ : 2 ≤ β) (hm : mh_g T n f m (t + 1 + 1) k u c l w i S) (hs : mh_s t [(Y, 0), (X, 0)] S) (b1 : t + 1 + 12 * r + bt ≤ 300) (b2 : k + 1 + 4 * r + bk ≤ 100) (b3 : u ≤ i) (b4 : c + 1501 ≤ H + i) (b5 : l + 1501 ≤ H + i) (b6 : w + r = 24 ∧ H ≤ 3002) : ∃ g S', mp_go g S S' ∧ mp_R T n f H m t k u c l w (d + 1) (β - 1) i S (ps_two (tk_K T n) h p i m) g S' := by
  obtain ⟨y1, y4, y12, yk, yc⟩ := hY
  obtain ⟨s1, s2⟩ := hs 0 (show 0 < 2 by decide)
  obtain ⟨s3, s4⟩ := hs 1 (show 1 < 2 by decide)
  obtain ⟨g1, S1, G1, O1, R1⟩ := hp i m (t + 1) k u c l w S hm s3 b1 (by omega) b3 b4 b5 b6
  have O1' : of_f (mp_W f m t k u c l H) S S1 := of_mono (mp_le (Nat.le_refl _) (Nat.le_succ _) (Nat.le_refl _) (Nat.le_refl _) (Nat.le_refl _) (Nat.le_refl _)) O1
  unfold ps_two
  cases q1 : p i m with
  | error e =>
    rw [q1] at R1
    exact ⟨g1, S1, G1, O1', R1.1, by omega⟩
  | ok q =>
    rw [q1] at R1
    obtain ⟨c1, l1, L1, L2, M1, z1, Z1, D1⟩ := R1
    obtain ⟨p1, p2, p3, p4, p5, p6, p7, -⟩ := hgd _ _ q q1
    have t0 : S1.1 152 t = Y := by
      rw [O1.1 152 t (by rintro (z | z | z | z | z | z | z | z | z) <;> omega)]; exact s1
    have t1 : S1.1 153 t = 0 := by
      rw [O1.1 153 t (by rintro (z | z | z | z | z | z | z | z | z) <;> omega)]; exact s2
    have hpop := mh_pop M1
    have hloop : ∀ F, fn_Mo_parse_21 (F + 1) S1 = wd_d (fn_Mo_onSum Y 0 (wd_i S1 135 35 (Int32.ofNat t))) (fn_Mo_parse_21 F) := fun F => by
      rw [mp_pop M1 (by omega) F, t0, t1, if_neg y1, if_neg y4, if_neg y12]
    have oP : of_f mw_35 S1 (wd_i S1 135 35 (Int32.ofNat t)) := of_i ⟨rfl, rfl⟩ of_refl
    show ∃ g S', mp_go g S S' ∧ mp_R T n f H m t k u c l w (d + 1) (β - 1) i S (if h (tk_K T n q.2.2.2.1) = true then _ else _) g S'
    by_cases hk : h (tk_K T n q.2.2.2.1) = true
    · rw [if_pos hk]
      generalize hkk : tk_K T n q.2.2.2.1 = kk at hk
      have kkc := yk kk hk
      obtain ⟨S3, f3, m3, x3, o3⟩ := mh_push (xs := []) (x := 12) (y := lx_cv kk) hpop (by show t + 0 < 4000; omega) (fun j hj => absurd hj (Nat.not_lt_zero _))
      obtain ⟨S4, f4, m4, x4, o4⟩ := mh_push (x := X) (y := 0) m3 (by show t + 1 < 4000; omega) x3
      have hk20 : ¬tk_K T n q.2.2.2.1 = 20 := by rw [hkk]; rcases kkc with z | z | z | z | z <;> rw [z] <;> decide
      obtain ⟨S5, f5, o5, r5⟩ := mt_pass h8 m4.1 hk20
      rw [hkk] at r5
      have hcode : fn_Mo_onSum Y 0 (wd_i S1 135 35 (Int32.ofNat t)) = some S5 := by
        rw [yc _ 0 _ hpop.1, hkk, if_pos hk, f3, wd_d_s, f4, wd_d_s, f5, wd_d_s]
      have G2 := mp_g1 hloop hcode
      have O5 : of_f (mp_W f m t k u c l H) S S5 := mp_of_f2 nx_W_W (mp_of_f2 (fun a b z => mp_le (Nat.le_refl _) (Nat.le_succ _) (Nat.le_refl _) (Nat.le_refl _) (Nat.le_refl _) (Nat.le_refl _) a b (mw_p_W a b z)) (mp_of_f2 mw_p_W (mp_of_f2 mw_35_W O1' oP) o3) o4) o5
      cases q2 : ps_take (tk_K T n) kk q.2.2.2.1 with
      | error e =>
        rw [q2] at r5
        exact ⟨g1 + 1, S5, mp_got G1 G2, O5, r5, by omega⟩
      | ok i1 =>
        obtain ⟨u1, u2, rfl, u4⟩ := ps_take_ok q2
        rw [q2] at r5
        have m5 := mh_nx o5 m4 r5
        have hs5 : mh_s t ([] ++ [(12, lx_cv kk)] ++ [(X, 0)]) S5 := mh_s_o (fun b _ => ⟨o5.1 152 b (by unfold nx_W; omega), o5.1 153 b (by unfold nx_W; omega)⟩) x4
        obtain ⟨v1, v2⟩ := hs5 0 (show 0 < 2 by decide)
        obtain ⟨v3, v4⟩ := hs5 1 (show 1 < 2 by decide)
        obtain ⟨g2, S6, G3, O6, R6⟩ := hp (q.2.2.2.1 + 1) q.2.2.2.2 (t + 1) (k + 1) u (c + q.2.2.1) l1 w S5 m5 v3 (by omega) (by omega) (by omega) (by omega) (by omega) b6
        have O6' : of_f (mp_W f m t k u c l H) S S6 := mp_of_f2 (mp_le p3 (Nat.le_succ _) (Nat.le_succ _) (Nat.le_refl _) (by omega) L1) O5 O6
        have G4 := mp_got G1 (mp_got G2 G3)
        show ∃ g S', mp_go g S S' ∧ mp_R T n f H m t k u c l w (d + 1) (β - 1) i S (ps_b (p (q.2.2.2.1 + 1) q.2.2.2.2) _) g S'
        cases q3 : p (q.2.2.2.1 + 1) q.2.2.2.2 with
        | error e =>
          rw [q3] at R6
          exact ⟨_, S6, G4, O6', R6.1, by have := R6.2; omega⟩
        | ok r' =>
          rw [q3] at R6
          obtain ⟨c2, l2, L3, L4, M6, z2, Z2, D2⟩ := R6
          obtain ⟨j1, j2, j3, j4, j5, j6, j7, -⟩ := hgd _ _ r' q3
          have hb1 := mr_t_b D1
          have hb2 := mr_t_b D2
          have w1 : S6.1 152 t = 12 := by
            rw [O6.1 152 t (by rintro (z | z | z | z | z | z | z | z | z) <;> omega)]; exact v1
          have w2 : S6.1 153 t = lx_cv kk := by
            rw [O6.1 153 t (by rintro (z | z | z | z | z | z | z | z | z) <;> omega)]; exact v2
          have w3 : S6.1 155 k = Int32.ofNat z1 := by
            rw [O6.1 155 k (by rintro (z | z | z | z | z | z | z | z | z) <;> omega), o5.1 155 k (by unfold nx_W; omega), o4.1 155 k (by unfold mw_p; omega), o3.1 155 k (by unfold mw_p; omega), oP.1 155 k (by unfold mw_35; omega)]
            exact Z1
          obtain ⟨S7, G5, M7, Z7, a1, a2, a3, a4, O7⟩ := mp_side M6 w1 (by omega) (by omega) (by omega) w3 Z2 (by omega)
          have O7' : of_f (mp_W f m t k u c l H) S S7 := mp_of_f2 (fun a b z => by
            rcases z with z | z | z
            · exact Or.inl ⟨z.1, by omega⟩
            · exact Or.inr (Or.inr (Or.inr (Or.inl ⟨z.1, by omega, by omega⟩)))
            · exact Or.inr (Or.inr (Or.inr (Or.inr (Or.inr (Or.inr (Or.inr (Or.inr ⟨z.1, by omega⟩)))))))) O6' O7
          refine ⟨_, S7, mp_got G4 G5, O7', ?_, l2, by omega, ?_, ?_, c + q.2.2.1 + r'.2.2.1, Z7, ?_⟩
          · show g1 + (1 + g2) + 1 + (β - 1) ≤ 12 * (r'.2.2.2.1 - i)
            omega
          · show l2 + i ≤ l + r'.2.2.2.1
            omega
          · show mh_g T n f r'.2.2.2.2 t (k + 1) u (c + (q.2.2.1 + r'.2.2.1 + 1)) l2 w r'.2.2.2.1 S7
            rw [show c + (q.2.2.1 + r'.2.2.1 + 1) = c + q.2.2.1 + r'.2.2.1 + 1 by omega]
            exact M7
          · have E1 : mr_g f c (c + q.2.2.1) l l1 m q.2.2.2.2 S1 S6 := by
              have hz : mr_g f c (c + q.2.2.1) l l1 m q.2.2.2.2 S1 S5 := by
                refine ⟨fun x _ _ => ?_, fun x _ _ => ?_, fun x _ _ => ?_⟩
                · have hh : ∀ a, 143 ≤ a → a ≤ 149 → S5.1 a x = S1.1 a x := fun a y1 y2 => by
                    rw [o5.1 a x (by unfold nx_W; omega), o4.1 a x (by unfold mw_p; omega), o3.1 a x (by unfold mw_p; omega), oP.1 a x (by unfold mw_35; omega)]
                  refine ⟨hh 143 (by omega) (by omega), hh 144 (by omega) (by omega), hh 145 (by omega) (by omega), hh 146 (by omega) (by omega), hh 147 (by omega) (by omega), ?_⟩
                  rw [o5.2.1 148 x (by unfold nx_W; omega), o4.2.1 148 x (by unfold mw_p; omega), o3.2.1 148 x (by unfold mw_p; omega), oP.2.1 148 x (by unfold mw_35; omega)]
                · rw [o5.1 149 x (by unfold nx_W; omega), o4.1 149 x (by unfold mw_p; omega), o3.1 149 x (by unfold mw_p; omega), oP.1 149 x (by unfold mw_35; omega)]
                · rw [o5.2.1 142 _ (by unfold nx_W; omega), o4.2.1 142 _ (by unfold mw_p; omega), o3.2.1 142 _ (by unfold mw_p; omega), oP.2.1 142 _ (by unfold mw_35; omega)]
              have hy := mr_g_W (lo := c) (hi := c + q.2.2.1) (al := l) (ah := l1) (nl := m) (nh := q.2.2.2.2) O6 (Nat.le_refl _) (Nat.le_refl _) (Nat.le_refl _)
              refine ⟨fun x x1 x2 => ?_, fun x x1 x2 => (hy.2.1 x x1 x2).trans (hz.2.1 x x1 x2), fun x x1 x2 => (hy.2.2 x x1 x2).trans (hz.2.2 x x1 x2)⟩
              obtain ⟨e1, e2, e3, e4, e5, e6⟩ := hz.1 x x1 x2
              obtain ⟨k1, k2, k3, k4, k5, k6⟩ := hy.1 x x1 x2
              exact ⟨k1.trans e1, k2.trans e2, k3.trans e3, k4.trans e4, k5.trans e5, k6.trans e6⟩
            have E2 : ∀ lo hi al ah nl nh, hi ≤ c + q.2.2.1 + r'.2.2.1 → mr_g f lo hi al ah nl nh S6 S7 := fun lo hi al ah nl nh hh => by
              refine ⟨fun x _ hx => ?_, fun x _ _ => O7.1 149 x (by omega), fun x _ _ => O7.2.1 142 _ (by omega)⟩
              exact ⟨O7.1 143 x (by omega), O7.1 144 x (by omega), O7.1 145 x (by omega), O7.1 146 x (by omega), O7.1 147 x (by omega), O7.2.1 148 x (by omega)⟩
            have D1' := mr_t_m (lo' := c) (hi' := c + q.2.2.1) (al' := l) (ah' := l2) (nl' := m) (nh' := r'.2.2.2.2) (Nat.le_refl _) (Nat.le_refl _) (Nat.le_refl _) (by omega) (Nat.le_refl _) j3 (E2 c (c + q.2.2.1) l l1 m q.2.2.2.2 (by omega)) _ _ _ (mr_t_m (Nat.le_refl _) (Nat.le_refl _) (Nat.le_refl _) (Nat.le_refl _) (Nat.le_refl _) (Nat.le_refl _) E1 _ _ _ D1)
            have D2' := mr_t_m (lo' := c + q.2.2.1) (hi' := c + q.2.2.1 + r'.2.2.1) (al' := l) (ah' := l2) (nl' := m) (nh' := r'.2.2.2.2) (Nat.le_refl _) (Nat.le_refl _) L1 (Nat.le_refl _) p3 (Nat.le_refl _) (E2 _ _ l1 l2 q.2.2.2.2 r'.2.2.2.2 (Nat.le_refl _)) _ _ _ D2
            refine ⟨by omega, by show c + q.2.2.1 + r'.2.2.1 < c + (q.2.2.1 + r'.2.2.1 + 1); omega, ?_⟩
            exact Or.inr (Or.inr (Or.inr (Or.inr (Or.inr ⟨kkc, rfl, a1, a4.trans w2, z1, z2, c, c + q.2.2.1, c + q.2.2.1 + r'.2.2.1, a2, a3, Nat.le_refl _, D1', D2', Nat.le_refl _⟩))))
    · rw [if_neg hk]
      have hcode : fn_Mo_onSum Y 0 (wd_i S1 135 35 (Int32.ofNat t)) = some (wd_i S1 135 35 (Int32.ofNat t)) := by
        rw [yc _ 0 _ hpop.1, if_neg hk]
      refine ⟨g1 + 1, _, mp_got G1 (mp_g1 hloop hcode), mp_of_f2 mw_35_W O1' oP, by omega, l1, L1, L2, hpop, z1, ?_, ?_⟩
      · rw [fr_ne (by omega)]; exact Z1
      · refine mr_t_s _ _ _ (mr_t_m (Nat.le_refl _) (Nat.le_refl _) (Nat.le_refl _) (Nat.le_refl _) (Nat.le_refl _) (Nat.le_refl _) ⟨fun x _ _ => ⟨fr_ne (by omega), fr_ne (by omega), fr_ne (by omega), fr_ne (by omega), fr_ne (by omega), rfl⟩, fun x _ _ => fr_ne (by omega), fun x _ _ => rfl⟩ _ _ _ D1)
end M2
