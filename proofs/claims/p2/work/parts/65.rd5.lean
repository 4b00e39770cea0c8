/-! let; a part, a sign, a part. -/
section Rd5
variable {K : Nat → Int32} {V : Nat → Int64} {b : Nat} {S0 : wd_S} {i m : Nat} {sc : List (Int64 × Nat)} {ms : Int32} {S S' S1 : wd_S} {e : ps_E} {s : Nat} {k : Int32} {n c d : Nat} {a z u : Int32} {self : ps_P} {x : Int64}
theorem rd_h_8 (h : rd_h K b S0 i m sc ms S) (hm : m < 16) : rd_h K b S0 i (m + 1) sc ms (wd_i S 47 8 (Int32.ofNat (m + 1))) := by
  obtain ⟨a1, a2, a3, a4, a5, a6, a7, a8, a9, a10, a11, a12⟩ := h
  refine ⟨of_i (Or.inl rfl) a1, a2, a3, ?_, ?_, ?_, fr_eq, by omega, ?_, by omega, rd_sc_o (S := S) sc (fun m _ => ⟨rfl, fr_ne (by omega)⟩) a11, ?_⟩
  · rw [fr_ne (by omega)]; exact a4
  · rw [fr_ne (by omega)]; exact a5
  · rw [fr_ne (by omega)]; exact a6
  · rw [fr_ne (by omega)]; exact a9
  · rw [fr_ne (by omega)]; exact a12
theorem rd_h_pop {q : Int64 × Nat} (h : rd_h K b S0 i m (q :: sc) ms S) : rd_h K b S0 i m sc ms (wd_i S 47 11 (S.1 47 11 - 1)) := by
  obtain ⟨a1, a2, a3, a4, a5, a6, a7, a8, a9, a10, a11, a12⟩ := h
  have a10 : sc.length + 1 ≤ m := a10
  refine ⟨of_i (Or.inl rfl) a1, a2, a3, ?_, ?_, ?_, ?_, a8, ?_, by omega, rd_sc_o (S := S) sc (fun m _ => ⟨rfl, fr_ne (by omega)⟩) a11.2.2.2, ?_⟩
  · rw [fr_ne (by omega)]; exact a4
  · rw [fr_ne (by omega)]; exact a5
  · rw [fr_ne (by omega)]; exact a6
  · rw [fr_ne (by omega)]; exact a7
  · rw [fr_eq, a9]
    exact im_p _
  · rw [fr_ne (by omega)]; exact a12
theorem rd_bd_pop (h : rd_bd b S0 e (s + 1) S) : rd_bd b S0 e s (wd_i S 47 11 (S.1 47 11 - 1)) := by
  rw [h.2.1, im_p]
  exact rd_bd_11 h
noncomputable def rd_l2 (n : Nat) (l1 x14 : Int32) (x6 : Int64) (u : Int32) (S20 : wd_S) : Option (Int32 × wd_S) :=
  wd_d (fn_Reader_takeKind (13 : Int32) S20) fun S23 => wd_d (fn_Reader_enter x6 u S23) fun S26 => if tp_t (S26.2.2.1 47 2) = (0, 8) then wd_c (rc_Reader_takeE n 43 (l1 + (1 : Int32)) 0 S26) fun x31 S30 => wd_d (fn_Trees_append (S26.2.2.1 47 2) x14 x31 S30) fun S33 => some (x14, wd_i S33 47 11 (S33.1 47 11 - 1)) else none
noncomputable def rd_l1 (n : Nat) (l1 : Int32) (x6 : Int64) (u : Int32) (S8 : wd_S) : Option (Int32 × wd_S) :=
  wd_d (fn_Reader_takeKind (14 : Int32) S8) fun S9 => if tp_t (S9.2.2.1 47 2) = (0, 8) then wd_c (fn_Trees_open (S9.2.2.1 47 2) (3 : Int32) u S9) fun x14 S13 => if tp_t (S13.2.2.1 47 2) = (0, 8) then wd_c (rc_Reader_takeE n 43 (l1 + (1 : Int32)) 0 S13) fun x18 S17 => wd_d (fn_Trees_append (S13.2.2.1 47 2) x14 x18 S17) fun S20 => rd_l2 n l1 x14 x6 u S20 else none else none
theorem rd_let_eq {p q : Int32} : fn_Reader_takeLet_21 (rc_Reader_takeE n) a p q S = rd_l1 n a (lo_at 9 (S.1 47 3) S) ((fo_nn p q S).1 47 8) (wd_i (fo_nn p q S) 47 8 ((fo_nn p q S).1 47 8 + 1)) := by
  unfold fn_Reader_takeLet_21
  rw [fo_newName, wd_c_s]
  rfl
theorem rd_l2_b (hX : rd_X K V b S0) (hn : 5 ≤ n) (h : rd_bd b S0 e s S) : ∃ S', rd_l2 n a z x u S = some (z, S') ∧ rd_bd b S0 e s S' := by
  unfold rd_l2
  have h1 := rd_bd_tk (k := 13) h (by decide) (by decide)
  rw [fo_takeKind, wd_d_s]
  obtain ⟨S2, e2, h2⟩ := rd_bd_enter (x := x) (v := u) h1
  rw [e2, wd_d_s, rd_r2 hX h2.1, if_pos (rd_t2 hX)]
  obtain ⟨S3, e3, h3⟩ := rd_ba (a := a + 1) (y := z) hX hn h2
  rw [e3]
  exact ⟨_, rfl, rd_bd_pop h3⟩
theorem rd_l1_b (hX : rd_X K V b S0) (hn : 5 ≤ n) (h : rd_bd b S0 e s S) : ∃ w S', rd_l1 n a x u S = some (w, S') ∧ rd_bd b S0 e s S' := by
  unfold rd_l1
  have h1 := rd_bd_tk (k := 14) h (by decide) (by decide)
  rw [fo_takeKind, wd_d_s, rd_r2 hX h1.1, if_pos (rd_t2 hX), fo_open, wd_c_s]
  have h2 := rd_op_b (k := 3) (v := u) hX.1 h1
  rw [rd_r2 hX h2.1, if_pos (rd_t2 hX)]
  obtain ⟨S3, e3, h3⟩ := rd_ba (a := a + 1) (y := (fo_tk 14 S).1 (b + 1) 6) hX hn h2
  rw [e3]
  obtain ⟨S4, e4, h4⟩ := rd_l2_b (a := a) (z := (fo_tk 14 S).1 (b + 1) 6) (x := x) (u := u) hX hn h3
  exact ⟨_, _, e4, h4⟩
theorem rd_let (hX : rd_X K V b S0) (hn : 5 ≤ n) (hs : ∀ sc, rd_C K b S0 sc d (self sc) (fun S => rc_Reader_takeE n 43 (a + 1) 0 S)) (hgd : ∀ sc i m q, self sc i m = .ok q → ps_good K d i m q) : rd_C K b S0 sc (d + 1) (ps_let K V self sc) (fun S => fn_Reader_takeLet (rc_Reader_takeE n) a S) := by
  intro i m ms c S h hc hci
  have hb := hX.1
  show ∃ x S', fn_Reader_takeLet (rc_Reader_takeE n) a S = some (x, S') ∧ _
  unfold fn_Reader_takeLet ps_let
  rw [fo_takeKind, wd_d_s]
  cases q1 : ps_take K 3 i with
  | error e =>
    have h1 := rd_tk_er hX h q1
    show ∃ x S', _ ∧ rd_bd b S0 e sc.length S'
    split
    · rw [rd_let_eq]
      exact rd_l1_b hX hn (rd_bd_i (by decide) (rd_bd_nn h1))
    · rw [rd_let_eq]
      exact rd_l1_b hX hn (rd_bd_i (by decide) (rd_bd_nn h1))
  | ok i1 =>
    obtain ⟨t1, t2, rfl, t4⟩ := ps_take_ok q1
    have h1 := rd_tk_ok hX h q1
    have hm16 := h.2.2.2.2.2.2.2.1
    obtain ⟨q0, hq0, hc0⟩ : ∃ q0 : Int32, (q0 = 0 ↔ decide (16 ≤ m) = false) ∧ (if (fo_tk 3 S).1 47 8 < 16 then fn_Reader_takeLet_21 (rc_Reader_takeE n) a 0 0 (fo_tk 3 S) else fn_Reader_takeLet_21 (rc_Reader_takeE n) a 0 1 (fo_tk 3 S)) = fn_Reader_takeLet_21 (rc_Reader_takeE n) a 0 q0 (fo_tk 3 S) := by
      rw [h1.2.2.2.2.2.2.1]
      by_cases hm : m < 16
      · exact ⟨0, ⟨fun _ => decide_eq_false (by omega), fun _ => rfl⟩, if_pos ((mo_lt (m := 16) (b := 16) (by omega) (by omega) rfl).mpr hm)⟩
      · exact ⟨1, ⟨fun q => absurd q (by decide), fun q => absurd (of_decide_eq_false q) (by omega)⟩, if_neg (fun q => hm ((mo_lt (m := 16) (b := 16) (by omega) (by omega) rfl).mp q))⟩
    rw [hc0, rd_let_eq]
    show ∃ w S', rd_l1 n a (lo_at 9 ((fo_tk 3 S).1 47 3) (fo_tk 3 S)) _ _ = some (w, S') ∧ rd_R K b S0 m sc ms c (d + 1) S (ps_b (ps_new K false (decide (16 ≤ m)) (i + 1)) _) w S'
    cases q2 : ps_new K false (decide (16 ≤ m)) (i + 1) with
    | error e =>
      have h2 := rd_nn_er (p := 0) (q := q0) hX h1 ⟨fun _ => rfl, fun _ => rfl⟩ hq0 q2
      exact rd_l1_b hX hn (rd_bd_i (by decide) h2)
    | ok i2 =>
      have h2 := rd_nn_ok (p := 0) (q := q0) hX h1 ⟨fun _ => rfl, fun _ => rfl⟩ hq0 q2
      obtain ⟨q2a, -, q2b⟩ := ps_new_ok q2
      have hm : m < 16 := by have := of_decide_eq_false q2b; omega
      obtain ⟨t5, t6, rfl, t8⟩ := ps_take_ok q2a
      have e8 : (fo_nn 0 q0 (fo_tk 3 S)).1 47 8 = Int32.ofNat m := h2.2.2.2.2.2.2.1
      have eV : lo_at 9 ((fo_tk 3 S).1 47 3) (fo_tk 3 S) = V (i + 1) := by
        rw [h1.2.2.2.1]
        exact rd_val hX h1.1 (by omega) (Or.inr t5)
      rw [e8, im_s, eV]
      have h3 := rd_h_8 h2 hm
      have g0 : ∀ p : Nat → Prop, nd_g (b + 1) p S (wd_i (fo_nn 0 q0 (fo_tk 3 S)) 47 8 (Int32.ofNat (m + 1))) := fun p => nd_rows (fun a' y1 y2 => by
        rw [fr_row _ (by omega), (rd_nn_out (S := fo_tk 3 S)).1 a' (by omega), (rd_tk_out (k := 3) (S := S)).1 a' (by omega)])
      have c0 : (wd_i (fo_nn 0 q0 (fo_tk 3 S)) 47 8 (Int32.ofNat (m + 1))).1 (b + 1) 6 = Int32.ofNat c := by
        rw [fr_row _ (by omega), (rd_nn_out (S := fo_tk 3 S)).1 _ (by omega), rd_tk_c hb]
        exact hc
      generalize wd_i (fo_nn 0 q0 (fo_tk 3 S)) 47 8 (Int32.ofNat (m + 1)) = S8 at h3 g0 c0 ⊢
      show ∃ w S', rd_l1 n a (V (i + 1)) (Int32.ofNat m) S8 = some (w, S') ∧ rd_R K b S0 m sc ms c (d + 1) S (ps_b (ps_take K 14 (i + 1 + 1)) _) w S'
      unfold rd_l1
      rw [fo_takeKind, wd_d_s]
      cases q3 : ps_take K 14 (i + 1 + 1) with
      | error e =>
        have h4 := rd_tk_er hX h3 q3
        rw [rd_r2 hX h4.1, if_pos (rd_t2 hX), fo_open, wd_c_s]
        have h5 := rd_op_b (k := 3) (v := Int32.ofNat m) hb h4
        rw [rd_r2 hX h5.1, if_pos (rd_t2 hX)]
        obtain ⟨S3, e3, h6⟩ := rd_ba (a := a + 1) (y := (fo_tk 14 S8).1 (b + 1) 6) hX hn h5
        rw [e3]
        obtain ⟨S4, e4, h7⟩ := rd_l2_b (a := a) (z := (fo_tk 14 S8).1 (b + 1) 6) (x := V (i + 1)) (u := Int32.ofNat m) hX hn h6
        exact ⟨_, _, e4, h7⟩
      | ok i3 =>
        obtain ⟨-, t9, rfl, t10⟩ := ps_take_ok q3
        have h4 := rd_tk_ok hX h3 q3
        have c4 : (fo_tk 14 S8).1 (b + 1) 6 = Int32.ofNat c := by rw [rd_tk_c hb]; exact c0
        have g4 : ∀ p : Nat → Prop, nd_g (b + 1) p S (fo_tk 14 S8) := fun p => nd_trans (g0 p) (rd_tk_nd hb)
        rw [rd_r2 hX h4.1, if_pos (rd_t2 hX), fo_open, wd_c_s, c4]
        have h5 := rd_op_h (k := 3) (v := Int32.ofNat m) hb h4
        obtain ⟨o1, o2, o3⟩ := nd_op (k := 3) (v := Int32.ofNat m) (rd_L hX) c4 (show c < 1500 by omega)
        rw [if_pos rfl] at o3
        have o2 := nd_trans (g4 _) o2
        rw [rd_r2 hX h5.1, if_pos (rd_t2 hX)]
        obtain ⟨S2, e2, a2⟩ := rd_ea hX (hs sc) (hgd sc _ _) h5 o1 (by omega) (Nat.lt_succ_self c) o3 (by decide)
        rw [e2]
        show ∃ w S', rd_l2 n a (Int32.ofNat c) (V (i + 1)) (Int32.ofNat m) S2 = some (w, S') ∧ rd_R K b S0 m sc ms c (d + 1) S (ps_b (self sc (i + 1 + 1 + 1) (m + 1)) _) w S'
        cases q4 : self sc (i + 1 + 1 + 1) (m + 1) with
        | error e =>
          rw [q4] at a2
          obtain ⟨S4, e4, h7⟩ := rd_l2_b (a := a) (z := Int32.ofNat c) (x := V (i + 1)) (u := Int32.ofNat m) hX hn a2
          exact ⟨_, _, e4, h7⟩
        | ok q =>
          rw [q4] at a2
          obtain ⟨g1, g2, g3, g4, g5, g6, g7, -⟩ := hgd _ _ _ q q4
          obtain ⟨h6, c6, n6, z1, w1, u1, l1⟩ := a2
          show ∃ w S', rd_l2 n a (Int32.ofNat c) (V (i + 1)) (Int32.ofNat m) S2 = some (w, S') ∧ rd_R K b S0 m sc ms c (d + 1) S (ps_b (ps_take K 13 q.2.2.2.1) _) w S'
          unfold rd_l2
          rw [fo_takeKind, wd_d_s]
          cases q5 : ps_take K 13 q.2.2.2.1 with
          | error e =>
            have h7 := rd_tk_er hX h6 q5
            obtain ⟨S4, e4, h8⟩ := rd_bd_enter (x := V (i + 1)) (v := Int32.ofNat m) h7
            rw [e4, wd_d_s, rd_r2 hX h8.1, if_pos (rd_t2 hX)]
            obtain ⟨S5, e5, h9⟩ := rd_ba (a := a + 1) (y := Int32.ofNat c) hX hn h8
            rw [e5]
            exact ⟨_, _, rfl, rd_bd_pop h9⟩
          | ok i4 =>
            obtain ⟨-, t11, rfl, t12⟩ := ps_take_ok q5
            have h7 := rd_tk_ok hX h6 q5
            have hsl : sc.length ≤ m := h.2.2.2.2.2.2.2.2.2.1
            obtain ⟨S4, e4, h8, f4⟩ := rd_enter (x := V (i + 1)) (u := m) h7 (by omega) hm
            have r4 : ∀ p : Nat → Prop, nd_g (b + 1) p S2 S4 := fun p => nd_trans (rd_tk_nd (k := 13) hb) (nd_rows (fun a' y1 y2 => f4 a' (by omega) (by omega)))
            have c8 : S4.1 (b + 1) 6 = Int32.ofNat (c + 1 + q.2.2.1) := by
              rw [f4 (b + 1) (by omega) (by omega), rd_tk_c hb]
              exact c6
            have w1 := nd_o_g (p := fun _ => True) trivial (r4 _) w1
            have u1 := nd_t_g (r4 _) _ _ _ u1
            have l1 := (nd_c_g _ _ (r4 _)).trans l1
            have n6 := nd_trans n6 (r4 _)
            rw [e4, wd_d_s, rd_r2 hX h8.1, if_pos (rd_t2 hX)]
            obtain ⟨S5, e5, a5⟩ := rd_ea hX (hs ((V (i + 1), m) :: sc)) (hgd ((V (i + 1), m) :: sc) _ _) h8 c8 (by omega) (by omega) w1 (show 1 < 100000 by decide)
            rw [e5]
            refine ⟨_, _, rfl, ?_⟩
            show rd_R K b S0 m sc ms c (d + 1) S (ps_b (self ((V (i + 1), m) :: sc) (q.2.2.2.1 + 1) q.2.2.2.2) _) _ _
            cases q6 : self ((V (i + 1), m) :: sc) (q.2.2.2.1 + 1) q.2.2.2.2 with
            | error e =>
              rw [q6] at a5
              exact rd_bd_pop a5
            | ok r =>
              rw [q6] at a5
              obtain ⟨k1, k2, k3, k4, k5, k6, k7, -⟩ := hgd _ _ _ r q6
              obtain ⟨h9, c9, n9, z2, w2, u2, l2⟩ := a5
              obtain ⟨x1, x2⟩ := nd_t_b u1
              obtain ⟨x3, x4⟩ := nd_t_b u2
              have u1 := nd_t_g (nd_mono (fun x hx => by omega) n9) _ _ _ u1
              have l1 := (nd_c_g _ _ (nd_mono (fun x hx => by omega) n9)).trans l1
              have rL : ∀ p : Nat → Prop, nd_g (b + 1) p S5 (wd_i S5 47 11 (S5.1 47 11 - 1)) := fun p => nd_rows (fun a' y1 y2 => fr_row _ (by omega))
              have w2 := nd_o_g (p := fun _ => True) trivial (rL _) w2
              have u1 := nd_t_g (rL _) _ _ _ u1
              have u2 := nd_t_g (rL _) _ _ _ u2
              have l1 := (nd_c_g _ _ (rL _)).trans l1
              have l2 := (nd_c_g _ _ (rL _)).trans l2
              have n9 := nd_trans n9 (rL _)
              refine ⟨?_, ?_, ?_, c, rfl, ?_, ?_, ?_, ?_⟩
              · show rd_h K b S0 r.2.2.2.1 r.2.2.2.2 sc (rd_ms ms (q.2.1 ++ r.2.1)) _
                rw [rd_ms_a]
                exact rd_h_pop h9
              · show (wd_i S5 47 11 (S5.1 47 11 - 1)).1 (b + 1) 6 = Int32.ofNat (c + (1 + q.2.2.1 + r.2.2.1))
                rw [fr_ne (by omega), show c + (1 + q.2.2.1 + r.2.2.1) = c + 1 + q.2.2.1 + r.2.2.1 by omega]
                exact c9
              · exact nd_trans (nd_mono (fun x hx => by omega) o2) (nd_trans (nd_mono (fun x hx => by omega) n6) (nd_mono (fun x hx => by omega) n9))
              · show nd_t (b + 1) _ c (c + (1 + q.2.2.1 + r.2.2.1)) (d + 1) c (tr_2 3 (Int32.ofNat m) (i + 1) q.1 r.1)
                refine nd_t_mk (zs := [z1, z2]) (Nat.le_refl _) (by omega) w2 (fun j hj => ?_)
                have hj : j < 2 := hj
                match j, hj with
                | 0, _ => exact nd_t_r (by omega) (by omega) _ _ _ u1
                | 1, _ => exact nd_t_r (by omega) (by omega) _ _ _ u2
              · rw [w2.2.2.2.1]
              · rw [w2.2.2.2.2.1]
                show Int32.ofNat (1 + (q.2.2.2.2 - (m + 1)) + (r.2.2.2.2 - q.2.2.2.2)) = Int32.ofNat (r.2.2.2.2 - m)
                congr 1
                omega
              · show nd_c (b + 1) _ (1 + q.2.2.1 + r.2.2.1) c = ps_cl (q.2.1 ++ r.2.1)
                rw [show 1 + q.2.2.1 + r.2.2.1 = (q.2.2.1 + r.2.2.1) + 1 by omega, nd_c_s, if_neg (by rw [w2.1]; decide)]
                exact rd_cl2 _ _ l1 l2
/-- behind the left part -/
noncomputable def rd_tl (g : wd_S → Option (Int32 × wd_S)) (x2 k : Int32) (S1 : wd_S) : Option (Int32 × wd_S) := wd_d (fn_Reader_takeKind k S1) fun S5 => if tp_t (S5.2.2.1 47 2) = (0, 8) then wd_c (g S5) fun x10 S9 => wd_c (fn_Trees_join (S5.2.2.1 47 2) k x2 x10 S9) fun x13 S12 => some (x13, S12) else none
theorem rd_two (hX : rd_X K V b S0) {p : Nat → Nat → Except ps_E ps_O} {g : wd_S → Option (Int32 × wd_S)} {f : Int32 → Bool} (hf : f 3 = false ∧ f 5 = false ∧ f 2 = false ∧ f 19 = false ∧ f 20 = false) (hs : rd_C K b S0 sc d p g) (hB : ∀ e s S, rd_bd b S0 e s S → ∃ x S', g S = some (x, S') ∧ rd_bd b S0 e s S') (hgd : ∀ i m q, p i m = .ok q → ps_good K d i m q) : rd_C K b S0 sc (d + 1) (ps_two K f p) (fun S => wd_c (g S) fun x2 S1 => if f (S1.1 47 4) = true then rd_tl g x2 (S1.1 47 4) S1 else some (x2, S1)) := by
  intro i m ms c S h hc hci
  have hb := hX.1
  obtain ⟨x, S1, e1, r1⟩ := hs i m ms c S h hc hci
  simp only [e1, wd_c_s]
  unfold ps_two
  cases q1 : p i m with
  | error e =>
    rw [q1] at r1
    have r1 : rd_bd b S0 e sc.length S1 := r1
    rw [if_neg (by rcases rd_bd_4 r1 with z | z <;> rw [z] <;> simp [hf])]
    exact ⟨_, _, rfl, r1⟩
  | ok q =>
    rw [q1] at r1
    obtain ⟨g1, g2, g3, g4, g5, g6, g7, -⟩ := hgd _ _ q q1
    obtain ⟨h1, c1, n1, y1, rfl, u1, s1, l1, k1⟩ := r1
    have e4 : S1.1 47 4 = K q.2.2.2.1 := h1.2.2.2.2.1
    rw [e4]
    show ∃ x S', _ ∧ rd_R K b S0 m sc ms c (d + 1) S (if f (K q.2.2.2.1) = true then _ else _) x S'
    by_cases hk : f (K q.2.2.2.1) = true
    · rw [if_pos hk, if_pos hk]
      unfold rd_tl
      rw [fo_takeKind, wd_d_s]
      generalize hkk : K q.2.2.2.1 = kk at hk e4 ⊢
      have k3 : ¬kk = 3 := fun z => by rw [z, hf.1] at hk; cases hk
      have k5 : ¬kk = 5 := fun z => by rw [z, hf.2.1] at hk; cases hk
      have k2 : ¬kk = 2 := fun z => by rw [z, hf.2.2.1] at hk; cases hk
      have k19 : kk ≠ 19 := fun z => by rw [z, hf.2.2.2.1] at hk; cases hk
      have k20 : kk ≠ 20 := fun z => by rw [z, hf.2.2.2.2] at hk; cases hk
      cases q2 : ps_take K kk q.2.2.2.1 with
      | error e =>
        have h2 := rd_tk_er hX h1 q2
        rw [rd_r2 hX h2.1, if_pos (rd_t2 hX)]
        obtain ⟨x3, S3, e3, h3⟩ := hB _ _ _ h2
        rw [e3, wd_c_s, fo_join, wd_c_s]
        exact ⟨_, _, rfl, rd_ap_b hb (rd_ap_b hb (rd_op_b hb h3))⟩
      | ok i1 =>
        obtain ⟨t1, t2, rfl, t4⟩ := ps_take_ok q2
        have h2 := rd_tk_ok hX h1 q2
        rw [rd_r2 hX h2.1, if_pos (rd_t2 hX)]
        obtain ⟨x3, S3, e3, r3⟩ := hs _ _ _ (c + q.2.2.1) _ h2 (by rw [rd_tk_c hb]; exact c1) (by omega)
        rw [e3, wd_c_s, fo_join, wd_c_s]
        refine ⟨_, _, rfl, ?_⟩
        show rd_R K b S0 m sc ms c (d + 1) S (ps_b (p (q.2.2.2.1 + 1) q.2.2.2.2) _) _ _
        cases q3 : p (q.2.2.2.1 + 1) q.2.2.2.2 with
        | error e =>
          rw [q3] at r3
          exact rd_ap_b hb (rd_ap_b hb (rd_op_b hb r3))
        | ok r =>
          rw [q3] at r3
          obtain ⟨j1, j2, j3, j4, j5, j6, j7, -⟩ := hgd _ _ r q3
          obtain ⟨h3, c3, n3, y2, rfl, u2, s2, l2, k2'⟩ := r3
          obtain ⟨x1, x2⟩ := nd_t_b u1
          obtain ⟨x3, x4⟩ := nd_t_b u2
          have n3 := nd_trans (rd_tk_nd (k := kk) hb) n3
          obtain ⟨v1, -, -, v4, v5, -⟩ := n3 y1 (by omega)
          have u1 := nd_t_g (nd_mono (fun x hx => by omega) n3) _ _ _ u1
          have l1' := (nd_c_g _ _ (nd_mono (fun x hx => by omega) n3)).trans k1
          rw [c3]
          obtain ⟨o1, o2, o3⟩ := nd_op (k := kk) (v := 0) (rd_L hX) c3 (show c + q.2.2.1 + r.2.2.1 < 1500 by omega)
          rw [if_neg k3] at o3
          obtain ⟨o2a, -, -, o2d, o2e, -⟩ := o2 y1 (by omega)
          obtain ⟨o3a, -, -, o3d, o3e, -⟩ := o2 y2 (by omega)
          obtain ⟨p1, p2⟩ := nd_ap (z := y1) (s2 := q.2.2.1) (l2 := q.2.2.2.2 - m) (rd_L hX) (show c + q.2.2.1 + r.2.2.1 < 1500 by omega) (by omega) (by omega) (by decide) o3 (by rw [o2d, v4]; exact s1) (by rw [o2e, v5]; exact l1)
          obtain ⟨p3a, -, -, p3d, p3e, -⟩ := p1 y2 (by omega)
          obtain ⟨p3, p4⟩ := nd_ap (z := y2) (s2 := r.2.2.1) (l2 := r.2.2.2.2 - q.2.2.2.2) (rd_L hX) (show c + q.2.2.1 + r.2.2.1 < 1500 by omega) (by omega) (by omega) (by simp) p2 (by rw [p3d, o3d]; exact s2) (by rw [p3e, o3e]; exact l2)
          have n4 := nd_trans o2 (nd_trans p1 p3)
          refine ⟨?_, ?_, ?_, c + q.2.2.1 + r.2.2.1, rfl, ?_, ?_, ?_, ?_⟩
          · show rd_h K b S0 r.2.2.2.1 r.2.2.2.2 sc (rd_ms ms (q.2.1 ++ r.2.1)) _
            rw [rd_ms_a]
            exact rd_ap_h hb (rd_ap_h hb (rd_op_h hb h3))
          · rw [(nd_ap_out _ _ _ _).1 _ (by omega), (nd_ap_out _ _ _ _).1 _ (by omega), o1]
            show Int32.ofNat (c + q.2.2.1 + r.2.2.1 + 1) = Int32.ofNat (c + (q.2.2.1 + r.2.2.1 + 1))
            rw [show c + q.2.2.1 + r.2.2.1 + 1 = c + (q.2.2.1 + r.2.2.1 + 1) by omega]
          · exact nd_trans n1 (nd_trans (nd_mono (fun x hx => by omega) n3) (nd_mono (fun x hx => by omega) n4))
          · show nd_t (b + 1) _ c (c + (q.2.2.1 + r.2.2.1 + 1)) (d + 1) _ (tr_2 kk 0 0 q.1 r.1)
            refine nd_t_mk (zs := [y1, y2]) (by omega) (by omega) p4 (fun j hj => ?_)
            have hj : j < 2 := hj
            match j, hj with
            | 0, _ => exact nd_t_r (by omega) (by omega) _ _ _ (nd_t_g (nd_mono (fun x hx => by omega) n4) _ _ _ u1)
            | 1, _ => exact nd_t_r (by omega) (by omega) _ _ _ (nd_t_g (nd_mono (fun x hx => by omega) n4) _ _ _ u2)
          · rw [p4.2.2.2.1]
            show Int32.ofNat (1 + q.2.2.1 + r.2.2.1) = Int32.ofNat (q.2.2.1 + r.2.2.1 + 1)
            congr 1
            omega
          · rw [p4.2.2.2.2.1]
            show Int32.ofNat (0 + (q.2.2.2.2 - m) + (r.2.2.2.2 - q.2.2.2.2)) = Int32.ofNat (r.2.2.2.2 - m)
            congr 1
            omega
          · show nd_c (b + 1) _ (q.2.2.1 + r.2.2.1 + 1) c = ps_cl (q.2.1 ++ r.2.1)
            rw [nd_c_a, show nd_c (b + 1) _ 1 (c + (q.2.2.1 + r.2.2.1)) = [] from nd_c_1 (by rw [show c + (q.2.2.1 + r.2.2.1) = c + q.2.2.1 + r.2.2.1 by omega, p4.1]; exact k5), List.append_nil]
            exact rd_cl2 _ _ ((nd_c_g _ _ (nd_mono (fun x hx => by omega) n4)).trans l1') ((nd_c_g _ _ (nd_mono (fun x hx => by omega) n4)).trans k2')
    · rw [if_neg hk, if_neg hk]
      exact ⟨_, _, rfl, h1, c1, n1, y1, rfl, nd_t_s _ _ _ u1, s1, l1, k1⟩
end Rd5
