/-! part 65 -/
section
/-! let; a part, a sign, a part. -/
section Rd5
variable {K : Nat → Int32} {V : Nat → Int64} {b : Nat} {S0 : wd_S} {i m : Nat} {sc : List (Int64 × Nat)} {ms : Int32} {S S' S1 : wd_S} {e : ps_E} {s : Nat} {k : Int32} {n c d : Nat} {a z u : Int32} {self : ps_P} {x : Int64}
theorem rd_h_8 (h : rd_h K b S0 i m sc ms S) (hm : m < 16) : rd_h K b S0 i (m + 1) sc ms (wd_i S 47 8 (Int32.ofNat (m + 1))) := by
  obtain ⟨a1, a2, a3, a4, a5, a6, a7, a8, a9, a10, a11, a12⟩ := h
  refine ⟨of_i (Or.inl rfl) a1, a2, a3, ?_, ?_, ?_, fr_eq, by omega, ?_, by omega, rd_sc_o (S := S) sc (fun m _ => ⟨rfl, fr_ne (by omega)⟩) a11, ?_⟩
  · rw [fr_ne (by omega)]; exact a4
  · rw [fr_ne (by omega)]; exact a5
  · rw [fr_ne (by omega)]; exact a6
  · rw [fr_ne (by omega)]; exact a9
  · rw [fr_ne (by omega)]; exact a12
theorem rd_h_pop {q : Int64 × Nat} (h : rd_h K b S0 i m (q :: sc) ms S) : rd_h K b S0 i m sc ms (wd_i S 47 11 (S.1 47 11 - 1)) := by
  obtain ⟨a1, a2, a3, a4, a5, a6, a7, a8, a9, a10, a11, a12⟩ := h
  have a10 : sc.length + 1 ≤ m := a10
  refine ⟨of_i (Or.inl rfl) a1, a2, a3, ?_, ?_, ?_, ?_, a8, ?_, by omega, rd_sc_o (S := S) sc (fun m _ => ⟨rfl, fr_ne (by omega)⟩) a11.2.2.2, ?_⟩
  · rw [fr_ne (by omega)]; exact a4
  · rw [fr_ne (by omega)]; exact a5
  · rw [fr_ne (by omega)]; exact a6
  · rw [fr_ne (by omega)]; exact a7
  · rw [fr_eq, a9]
    exact im_p _
  · rw [fr_ne (by omega)]; exact a12
theorem rd_bd_pop (h : rd_bd b S0 e (s + 1) S) : rd_bd b S0 e s (wd_i S 47 11 (S.1 47 11 - 1)) := by
  rw [h.2.1, im_p]
  exact rd_bd_11 h
noncomputable def rd_l2 (n : Nat) (l1 x14 : Int32) (x6 : Int64) (u : Int32) (S20 : wd_S) : Option (Int32 × wd_S) :=
  wd_d (fn_Reader_takeKind (13 : Int32) S20) fun S23 => wd_d (fn_Reader_enter x6 u S23) fun S26 => if tp_t (S26.2.2.1 47 2) = (0, 8) then wd_c (rc_Reader_takeE n 43 (l1 + (1 : Int32)) 0 S26) fun x31 S30 => wd_d (fn_Trees_append (S26.2.2.1 47 2) x14 x31 S30) fun S33 => some (x14, wd_i S33 47 11 (S33.1 47 11 - 1)) else none
noncomputable def rd_l1 (n : Nat) (l1 : Int32) (x6 : Int64) (u : Int32) (S8 : wd_S) : Option (Int32 × wd_S) :=
  wd_d (fn_Reader_takeKind (14 : Int32) S8) fun S9 => if tp_t (S9.2.2.1 47 2) = (0, 8) then wd_c (fn_Trees_open (S9.2.2.1 47 2) (3 : Int32) u S9) fun x14 S13 => if tp_t (S13.2.2.1 47 2) = (0, 8) then wd_c (rc_Reader_takeE n 43 (l1 + (1 : Int32)) 0 S13) fun x18 S17 => wd_d (fn_Trees_append (S13.2.2.1 47 2) x14 x18 S17) fun S20 => rd_l2 n l1 x14 x6 u S20 else none else none
theorem rd_let_eq {p q : Int32} : fn_Reader_takeLet_21 (rc_Reader_takeE n) a p q S = rd_l1 n a (lo_at 9 (S.1 47 3) S) ((fo_nn p q S).1 47 8) (wd_i (fo_nn p q S) 47 8 ((fo_nn p q S).1 47 8 + 1)) := by
  unfold fn_Reader_takeLet_21
  rw [fo_newName, wd_c_s]
  rfl
theorem rd_l2_b (hX : rd_X K V b S0) (hn : 5 ≤ n) (h : rd_bd b S0 e s S) : ∃ S', rd_l2 n a z x u S = some (z, S') ∧ rd_bd b S0 e s S' := by
  unfold rd_l2
  have h1 := rd_bd_tk (k := 13) h (by decide) (by decide)
  rw [fo_takeKind, wd_d_s]
  obtain ⟨S2, e2, h2⟩ := rd_bd_enter (x := x) (v := u) h1
  rw [e2, wd_d_s, rd_r2 hX h2.1, if_pos (rd_t2 hX)]
  obtain ⟨S3, e3, h3⟩ := rd_ba (a := a + 1) (y := z) hX hn h2
  rw [e3]
  exact ⟨_, rfl, rd_bd_pop h3⟩
theorem rd_l1_b (hX : rd_X K V b S0) (hn : 5 ≤ n) (h : rd_bd b S0 e s S) : ∃ w S', rd_l1 n a x u S = some (w, S') ∧ rd_bd b S0 e s S' := by
  unfold rd_l1
  have h1 := rd_bd_tk (k := 14) h (by decide) (by decide)
  rw [fo_takeKind, wd_d_s, rd_r2 hX h1.1, if_pos (rd_t2 hX), fo_open, wd_c_s]
  have h2 := rd_op_b (k := 3) (v := u) hX.1 h1
  rw [rd_r2 hX h2.1, if_pos (rd_t2 hX)]
  obtain ⟨S3, e3, h3⟩ := rd_ba (a := a + 1) (y := (fo_tk 14 S).1 (b + 1) 6) hX hn h2
  rw [e3]
  obtain ⟨S4, e4, h4⟩ := rd_l2_b (a := a) (z := (fo_tk 14 S).1 (b + 1) 6) (x := x) (u := u) hX hn h3
  exact ⟨_, _, e4, h4⟩
theorem rd_let (hX : rd_X K V b S0) (hn : 5 ≤ n) (hs : ∀ sc, rd_C K b S0 sc d (self sc) (fun S => rc_Reader_takeE n 43 (a + 1) 0 S)) (hgd : ∀ sc i m q, self sc i m = .ok q → ps_good K d i m q) : rd_C K b S0 sc (d + 1) (ps_let K V self sc) (fun S => fn_Reader_takeLet (rc_Reader_takeE n) a S) := by
  intro i m ms c S h hc hci
  have hb := hX.1
  show ∃ x S', fn_Reader_takeLet (rc_Reader_takeE n) a S = some (x, S') ∧ _
  unfold fn_Reader_takeLet ps_let
  rw [fo_takeKind, wd_d_s]
  cases q1 : ps_take K 3 i with
  | error e =>
    have h1 := rd_tk_er hX h q1
    show ∃ x S', _ ∧ rd_bd b S0 e sc.length S'
    split
    · rw [rd_let_eq]
      exact rd_l1_b hX hn (rd_bd_i (by decide) (rd_bd_nn h1))
    · rw [rd_let_eq]
      exact rd_l1_b hX hn (rd_bd_i (by decide) (rd_bd_nn h1))
  | ok i1 =>
    obtain ⟨t1, t2, rfl, t4⟩ := ps_take_ok q1
    have h1 := rd_tk_ok hX h q1
    have hm16 := h.2.2.2.2.2.2.2.1
    obtain ⟨q0, hq0, hc0⟩ : ∃ q0 : Int32, (q0 = 0 ↔ decide (16 ≤ m) = false) ∧ (if (fo_tk 3 S).1 47 8 < 16 then fn_Reader_takeLet_21 (rc_Reader_takeE n) a 0 0 (fo_tk 3 S) else fn_Reader_takeLet_21 (rc_Reader_takeE n) a 0 1 (fo_tk 3 S)) = fn_Reader_takeLet_21 (rc_Reader_takeE n) a 0 q0 (fo_tk 3 S) := by
      rw [h1.2.2.2.2.2.2.1]
      by_cases hm : m < 16
      · exact ⟨0, ⟨fun _ => decide_eq_false (by omega), fun _ => rfl⟩, if_pos ((mo_lt (m := 16) (b := 16) (by omega) (by omega) rfl).mpr hm)⟩
      · exact ⟨1, ⟨fun q => absurd q (by decide), fun q => absurd (of_decide_eq_false q) (by omega)⟩, if_neg (fun q => hm ((mo_lt (m := 16) (b := 16) (by omega) (by omega) rfl).mp q))⟩
    rw [hc0, rd_let_eq]
    show ∃ w S', rd_l1 n a (lo_at 9 ((fo_tk 3 S).1 47 3) (fo_tk 3 S)) _ _ = some (w, S') ∧ rd_R K b S0 m sc ms c (d + 1) S (ps_b (ps_new K false (decide (16 ≤ m)) (i + 1)) _) w S'
    cases q2 : ps_new K false (decide (16 ≤ m)) (i + 1) with
    | error e =>
      have h2 := rd_nn_er (p := 0) (q := q0) hX h1 ⟨fun _ => rfl, fun _ => rfl⟩ hq0 q2
      exact rd_l1_b hX hn (rd_bd_i (by decide) h2)
    | ok i2 =>
      have h2 := rd_nn_ok (p := 0) (q := q0) hX h1 ⟨fun _ => rfl, fun _ => rfl⟩ hq0 q2
      obtain ⟨q2a, -, q2b⟩ := ps_new_ok q2
      have hm : m < 16 := by have := of_decide_eq_false q2b; omega
      obtain ⟨t5, t6, rfl, t8⟩ := ps_take_ok q2a
      have e8 : (fo_nn 0 q0 (fo_tk 3 S)).1 47 8 = Int32.ofNat m := h2.2.2.2.2.2.2.1
      have eV : lo_at 9 ((fo_tk 3 S).1 47 3) (fo_tk 3 S) = V (i + 1) := by
        rw [h1.2.2.2.1]
        exact rd_val hX h1.1 (by omega) (Or.inr t5)
      rw [e8, im_s, eV]
      have h3 := rd_h_8 h2 hm
      have g0 : ∀ p : Nat → Prop, nd_g (b + 1) p S (wd_i (fo_nn 0 q0 (fo_tk 3 S)) 47 8 (Int32.ofNat (m + 1))) := fun p => nd_rows (fun a' y1 y2 => by
        rw [fr_row _ (by omega), (rd_nn_out (S := fo_tk 3 S)).1 a' (by omega), (rd_tk_out (k := 3) (S := S)).1 a' (by omega)])
      have c0 : (wd_i (fo_nn 0 q0 (fo_tk 3 S)) 47 8 (Int32.ofNat (m + 1))).1 (b + 1) 6 = Int32.ofNat c := by
        rw [fr_row _ (by omega), (rd_nn_out (S := fo_tk 3 S)).1 _ (by omega), rd_tk_c hb]
        exact hc
      generalize wd_i (fo_nn 0 q0 (fo_tk 3 S)) 47 8 (Int32.ofNat (m + 1)) = S8 at h3 g0 c0 ⊢
      show ∃ w S', rd_l1 n a (V (i + 1)) (Int32.ofNat m) S8 = some (w, S') ∧ rd_R K b S0 m sc ms c (d + 1) S (ps_b (ps_take K 14 (i + 1 + 1)) _) w S'
      unfold rd_l1
      rw [fo_takeKind, wd_d_s]
      cases q3 : ps_take K 14 (i + 1 + 1) with
      | error e =>
        have h4 := rd_tk_er hX h3 q3
        rw [rd_r2 hX h4.1, if_pos (rd_t2 hX), fo_open, wd_c_s]
        have h5 := rd_op_b (k := 3) (v := Int32.ofNat m) hb h4
        rw [rd_r2 hX h5.1, if_pos (rd_t2 hX)]
        obtain ⟨S3, e3, h6⟩ := rd_ba (a := a + 1) (y := (fo_tk 14 S8).1 (b + 1) 6) hX hn h5
        rw [e3]
        obtain ⟨S4, e4, h7⟩ := rd_l2_b (a := a) (z := (fo_tk 14 S8).1 (b + 1) 6) (x := V (i + 1)) (u := Int32.ofNat m) hX hn h6
        exact ⟨_, _, e4, h7⟩
      | ok i3 =>
        obtain ⟨-, t9, rfl, t10⟩ := ps_take_ok q3
        have h4 := rd_tk_ok hX h3 q3
        have c4 : (fo_tk 14 S8).1 (b + 1) 6 = Int32.ofNat c := by rw [rd_tk_c hb]; exact c0
        have g4 : ∀ p : Nat → Prop, nd_g (b + 1) p S (fo_tk 14 S8) := fun p => nd_trans (g0 p) (rd_tk_nd hb)
        rw [rd_r2 hX h4.1, if_pos (rd_t2 hX), fo_open, wd_c_s, c4]
        have h5 := rd_op_h (k := 3) (v := Int32.ofNat m) hb h4
        obtain ⟨o1, o2, o3⟩ := nd_op (k := 3) (v := Int32.ofNat m) (rd_L hX) c4 (show c < 1500 by omega)
        rw [if_pos rfl] at o3
        have o2 := nd_trans (g4 _) o2
        rw [rd_r2 hX h5.1, if_pos (rd_t2 hX)]
        obtain ⟨S2, e2, a2⟩ := rd_ea hX (hs sc) (hgd sc _ _) h5 o1 (by omega) (Nat.lt_succ_self c) o3 (by decide)
        rw [e2]
        show ∃ w S', rd_l2 n a (Int32.ofNat c) (V (i + 1)) (Int32.ofNat m) S2 = some (w, S') ∧ rd_R K b S0 m sc ms c (d + 1) S (ps_b (self sc (i + 1 + 1 + 1) (m + 1)) _) w S'
        cases q4 : self sc (i + 1 + 1 + 1) (m + 1) with
        | error e =>
          rw [q4] at a2
          obtain ⟨S4, e4, h7⟩ := rd_l2_b (a := a) (z := Int32.ofNat c) (x := V (i + 1)) (u := Int32.ofNat m) hX hn a2
          exact ⟨_, _, e4, h7⟩
        | ok q =>
          rw [q4] at a2
          obtain ⟨g1, g2, g3, g4, g5, g6, g7, -⟩ := hgd _ _ _ q q4
          obtain ⟨h6, c6, n6, z1, w1, u1, l1⟩ := a2
          show ∃ w S', rd_l2 n a (Int32.ofNat c) (V (i + 1)) (Int32.ofNat m) S2 = some (w, S') ∧ rd_R K b S0 m sc ms c (d + 1) S (ps_b (ps_take K 13 q.2.2.2.1) _) w S'
          unfold rd_l2
          rw [fo_takeKind, wd_d_s]
          cases q5 : ps_take K 13 q.2.2.2.1 with
          | error e =>
            have h7 := rd_tk_er hX h6 q5
            obtain ⟨S4, e4, h8⟩ := rd_bd_enter (x := V (i + 1)) (v := Int32.ofNat m) h7
            rw [e4, wd_d_s, rd_r2 hX h8.1, if_pos (rd_t2 hX)]
            obtain ⟨S5, e5, h9⟩ := rd_ba (a := a + 1) (y := Int32.ofNat c) hX hn h8
            rw [e5]
            exact ⟨_, _, rfl, rd_bd_pop h9⟩
          | ok i4 =>
            obtain ⟨-, t11, rfl, t12⟩ := ps_take_ok q5
            have h7 := rd_tk_ok hX h6 q5
            have hsl : sc.length ≤ m := h.2.2.2.2.2.2.2.2.2.1
            obtain ⟨S4, e4, h8, f4⟩ := rd_enter (x := V (i + 1)) (u := m) h7 (by omega) hm
            have r4 : ∀ p : Nat → Prop, nd_g (b + 1) p S2 S4 := fun p => nd_trans (rd_tk_nd (k := 13) hb) (nd_rows (fun a' y1 y2 => f4 a' (by omega) (by omega)))
            have c8 : S4.1 (b + 1) 6 = Int32.ofNat (c + 1 + q.2.2.1) := by
              rw [f4 (b + 1) (by omega) (by omega), rd_tk_c hb]
              exact c6
            have w1 := nd_o_g (p := fun _ => True) trivial (r4 _) w1
            have u1 := nd_t_g (r4 _) _ _ _ u1
            have l1 := (nd_c_g _ _ (r4 _)).trans l1
            have n6 := nd_trans n6 (r4 _)
            rw [e4, wd_d_s, rd_r2 hX h8.1, if_pos (rd_t2 hX)]
            obtain ⟨S5, e5, a5⟩ := rd_ea hX (hs ((V (i + 1), m) :: sc)) (hgd ((V (i + 1), m) :: sc) _ _) h8 c8 (by omega) (by omega) w1 (show 1 < 100000 by decide)
            rw [e5]
            refine ⟨_, _, rfl, ?_⟩
            show rd_R K b S0 m sc ms c (d + 1) S (ps_b (self ((V (i + 1), m) :: sc) (q.2.2.2.1 + 1) q.2.2.2.2) _) _ _
            cases q6 : self ((V (i + 1), m) :: sc) (q.2.2.2.1 + 1) q.2.2.2.2 with
            | error e =>
              rw [q6] at a5
              exact rd_bd_pop a5
            | ok r =>
              rw [q6] at a5
              obtain ⟨k1, k2, k3, k4, k5, k6, k7, -⟩ := hgd _ _ _ r q6
              obtain ⟨h9, c9, n9, z2, w2, u2, l2⟩ := a5
              obtain ⟨x1, x2⟩ := nd_t_b u1
              obtain ⟨x3, x4⟩ := nd_t_b u2
              have u1 := nd_t_g (nd_mono (fun x hx => by omega) n9) _ _ _ u1
              have l1 := (nd_c_g _ _ (nd_mono (fun x hx => by omega) n9)).trans l1
              have rL : ∀ p : Nat → Prop, nd_g (b + 1) p S5 (wd_i S5 47 11 (S5.1 47 11 - 1)) := fun p => nd_rows (fun a' y1 y2 => fr_row _ (by omega))
              have w2 := nd_o_g (p := fun _ => True) trivial (rL _) w2
              have u1 := nd_t_g (rL _) _ _ _ u1
              have u2 := nd_t_g (rL _) _ _ _ u2
              have l1 := (nd_c_g _ _ (rL _)).trans l1
              have l2 := (nd_c_g _ _ (rL _)).trans l2
              have n9 := nd_trans n9 (rL _)
              refine ⟨?_, ?_, ?_, c, rfl, ?_, ?_, ?_, ?_⟩
              · show rd_h K b S0 r.2.2.2.1 r.2.2.2.2 sc (rd_ms ms (q.2.1 ++ r.2.1)) _
                rw [rd_ms_a]
                exact rd_h_pop h9
              · show (wd_i S5 47 11 (S5.1 47 11 - 1)).1 (b + 1) 6 = Int32.ofNat (c + (1 + q.2.2.1 + r.2.2.1))
                rw [fr_ne (by omega), show c + (1 + q.2.2.1 + r.2.2.1) = c + 1 + q.2.2.1 + r.2.2.1 by omega]
                exact c9
              · exact nd_trans (nd_mono (fun x hx => by omega) o2) (nd_trans (nd_mono (fun x hx => by omega) n6) (nd_mono (fun x hx => by omega) n9))
              · show nd_t (b + 1) _ c (c + (1 + q.2.2.1 + r.2.2.1)) (d + 1) c (tr_2 3 (Int32.ofNat m) (i + 1) q.1 r.1)
                refine nd_t_mk (zs := [z1, z2]) (Nat.le_refl _) (by omega) w2 (fun j hj => ?_)
                have hj : j < 2 := hj
                match j, hj with
                | 0, _ => exact nd_t_r (by omega) (by omega) _ _ _ u1
                | 1, _ => exact nd_t_r (by omega) (by omega) _ _ _ u2
              · rw [w2.2.2.2.1]
              · rw [w2.2.2.2.2.1]
                show Int32.ofNat (1 + (q.2.2.2.2 - (m + 1)) + (r.2.2.2.2 - q.2.2.2.2)) = Int32.ofNat (r.2.2.2.2 - m)
                congr 1
                omega
              · show nd_c (b + 1) _ (1 + q.2.2.1 + r.2.2.1) c = ps_cl (q.2.1 ++ r.2.1)
                rw [show 1 + q.2.2.1 + r.2.2.1 = (q.2.2.1 + r.2.2.1) + 1 by omega, nd_c_s, if_neg (by rw [w2.1]; decide)]
                exact rd_cl2 _ _ l1 l2
/-- behind the left part -/
noncomputable def rd_tl (g : wd_S → Option (Int32 × wd_S)) (x2 k : Int32) (S1 : wd_S) : Option (Int32 × wd_S) := wd_d (fn_Reader_takeKind k S1) fun S5 => if tp_t (S5.2.2.1 47 2) = (0, 8) then wd_c (g S5) fun x10 S9 => wd_c (fn_Trees_join (S5.2.2.1 47 2) k x2 x10 S9) fun x13 S12 => some (x13, S12) else none
theorem rd_two (hX : rd_X K V b S0) {p : Nat → Nat → Except ps_E ps_O} {g : wd_S → Option (Int32 × wd_S)} {f : Int32 → Bool} (hf : f 3 = false ∧ f 5 = false ∧ f 2 = false ∧ f 19 = false ∧ f 20 = false) (hs : rd_C K b S0 sc d p g) (hB : ∀ e s S, rd_bd b S0 e s S → ∃ x S', g S = some (x, S') ∧ rd_bd b S0 e s S') (hgd : ∀ i m q, p i m = .ok q → ps_good K d i m q) : rd_C K b S0 sc (d + 1) (ps_two K f p) (fun S => wd_c (g S) fun x2 S1 => if f (S1.1 47 4) = true then rd_tl g x2 (S1.1 47 4) S1 else some (x2, S1)) := by
  intro i m ms c S h hc hci
  have hb := hX.1
  obtain ⟨x, S1, e1, r1⟩ := hs i m ms c S h hc hci
  simp only [e1, wd_c_s]
  unfold ps_two
  cases q1 : p i m with
  | error e =>
    rw [q1] at r1
    have r1 : rd_bd b S0 e sc.length S1 := r1
    rw [if_neg (by rcases rd_bd_4 r1 with z | z <;> rw [z] <;> simp [hf])]
    exact ⟨_, _, rfl, r1⟩
  | ok q =>
    rw [q1] at r1
    obtain ⟨g1, g2, g3, g4, g5, g6, g7, -⟩ := hgd _ _ q q1
    obtain ⟨h1, c1, n1, y1, rfl, u1, s1, l1, k1⟩ := r1
    have e4 : S1.1 47 4 = K q.2.2.2.1 := h1.2.2.2.2.1
    rw [e4]
    show ∃ x S', _ ∧ rd_R K b S0 m sc ms c (d + 1) S (if f (K q.2.2.2.1) = true then _ else _) x S'
    by_cases hk : f (K q.2.2.2.1) = true
    · rw [if_pos hk, if_pos hk]
      unfold rd_tl
      rw [fo_takeKind, wd_d_s]
      generalize hkk : K q.2.2.2.1 = kk at hk e4 ⊢
      have k3 : ¬kk = 3 := fun z => by rw [z, hf.1] at hk; cases hk
      have k5 : ¬kk = 5 := fun z => by rw [z, hf.2.1] at hk; cases hk
      have k2 : ¬kk = 2 := fun z => by rw [z, hf.2.2.1] at hk; cases hk
      have k19 : kk ≠ 19 := fun z => by rw [z, hf.2.2.2.1] at hk; cases hk
      have k20 : kk ≠ 20 := fun z => by rw [z, hf.2.2.2.2] at hk; cases hk
      cases q2 : ps_take K kk q.2.2.2.1 with
      | error e =>
        have h2 := rd_tk_er hX h1 q2
        rw [rd_r2 hX h2.1, if_pos (rd_t2 hX)]
        obtain ⟨x3, S3, e3, h3⟩ := hB _ _ _ h2
        rw [e3, wd_c_s, fo_join, wd_c_s]
        exact ⟨_, _, rfl, rd_ap_b hb (rd_ap_b hb (rd_op_b hb h3))⟩
      | ok i1 =>
        obtain ⟨t1, t2, rfl, t4⟩ := ps_take_ok q2
        have h2 := rd_tk_ok hX h1 q2
        rw [rd_r2 hX h2.1, if_pos (rd_t2 hX)]
        obtain ⟨x3, S3, e3, r3⟩ := hs _ _ _ (c + q.2.2.1) _ h2 (by rw [rd_tk_c hb]; exact c1) (by omega)
        rw [e3, wd_c_s, fo_join, wd_c_s]
        refine ⟨_, _, rfl, ?_⟩
        show rd_R K b S0 m sc ms c (d + 1) S (ps_b (p (q.2.2.2.1 + 1) q.2.2.2.2) _) _ _
        cases q3 : p (q.2.2.2.1 + 1) q.2.2.2.2 with
        | error e =>
          rw [q3] at r3
          exact rd_ap_b hb (rd_ap_b hb (rd_op_b hb r3))
        | ok r =>
          rw [q3] at r3
          obtain ⟨j1, j2, j3, j4, j5, j6, j7, -⟩ := hgd _ _ r q3
          obtain ⟨h3, c3, n3, y2, rfl, u2, s2, l2, k2'⟩ := r3
          obtain ⟨x1, x2⟩ := nd_t_b u1
          obtain ⟨x3, x4⟩ := nd_t_b u2
          have n3 := nd_trans (rd_tk_nd (k := kk) hb) n3
          obtain ⟨v1, -, -, v4, v5, -⟩ := n3 y1 (by omega)
          have u1 := nd_t_g (nd_mono (fun x hx => by omega) n3) _ _ _ u1
          have l1' := (nd_c_g _ _ (nd_mono (fun x hx => by omega) n3)).trans k1
          rw [c3]
          obtain ⟨o1, o2, o3⟩ := nd_op (k := kk) (v := 0) (rd_L hX) c3 (show c + q.2.2.1 + r.2.2.1 < 1500 by omega)
          rw [if_neg k3] at o3
          obtain ⟨o2a, -, -, o2d, o2e, -⟩ := o2 y1 (by omega)
          obtain ⟨o3a, -, -, o3d, o3e, -⟩ := o2 y2 (by omega)
          obtain ⟨p1, p2⟩ := nd_ap (z := y1) (s2 := q.2.2.1) (l2 := q.2.2.2.2 - m) (rd_L hX) (show c + q.2.2.1 + r.2.2.1 < 1500 by omega) (by omega) (by omega) (by decide) o3 (by rw [o2d, v4]; exact s1) (by rw [o2e, v5]; exact l1)
          obtain ⟨p3a, -, -, p3d, p3e, -⟩ := p1 y2 (by omega)
          obtain ⟨p3, p4⟩ := nd_ap (z := y2) (s2 := r.2.2.1) (l2 := r.2.2.2.2 - q.2.2.2.2) (rd_L hX) (show c + q.2.2.1 + r.2.2.1 < 1500 by omega) (by omega) (by omega) (by simp) p2 (by rw [p3d, o3d]; exact s2) (by rw [p3e, o3e]; exact l2)
          have n4 := nd_trans o2 (nd_trans p1 p3)
          refine ⟨?_, ?_, ?_, c + q.2.2.1 + r.2.2.1, rfl, ?_, ?_, ?_, ?_⟩
          · show rd_h K b S0 r.2.2.2.1 r.2.2.2.2 sc (rd_ms ms (q.2.1 ++ r.2.1)) _
            rw [rd_ms_a]
            exact rd_ap_h hb (rd_ap_h hb (rd_op_h hb h3))
          · rw [(nd_ap_out _ _ _ _).1 _ (by omega), (nd_ap_out _ _ _ _).1 _ (by omega), o1]
            show Int32.ofNat (c + q.2.2.1 + r.2.2.1 + 1) = Int32.ofNat (c + (q.2.2.1 + r.2.2.1 + 1))
            rw [show c + q.2.2.1 + r.2.2.1 + 1 = c + (q.2.2.1 + r.2.2.1 + 1) by omega]
          · exact nd_trans n1 (nd_trans (nd_mono (fun x hx => by omega) n3) (nd_mono (fun x hx => by omega) n4))
          · show nd_t (b + 1) _ c (c + (q.2.2.1 + r.2.2.1 + 1)) (d + 1) _ (tr_2 kk 0 0 q.1 r.1)
            refine nd_t_mk (zs := [y1, y2]) (by omega) (by omega) p4 (fun j hj => ?_)
            have hj : j < 2 := hj
            match j, hj with
            | 0, _ => exact nd_t_r (by omega) (by omega) _ _ _ (nd_t_g (nd_mono (fun x hx => by omega) n4) _ _ _ u1)
            | 1, _ => exact nd_t_r (by omega) (by omega) _ _ _ (nd_t_g (nd_mono (fun x hx => by omega) n4) _ _ _ u2)
          · rw [p4.2.2.2.1]
            show Int32.ofNat (1 + q.2.2.1 + r.2.2.1) = Int32.ofNat (q.2.2.1 + r.2.2.1 + 1)
            congr 1
            omega
          · rw [p4.2.2.2.2.1]
            show Int32.ofNat (0 + (q.2.2.2.2 - m) + (r.2.2.2.2 - q.2.2.2.2)) = Int32.ofNat (r.2.2.2.2 - m)
            congr 1
            omega
          · show nd_c (b + 1) _ (q.2.2.1 + r.2.2.1 + 1) c = ps_cl (q.2.1 ++ r.2.1)
            rw [nd_c_a, show nd_c (b + 1) _ 1 (c + (q.2.2.1 + r.2.2.1)) = [] from nd_c_1 (by rw [show c + (q.2.2.1 + r.2.2.1) = c + q.2.2.1 + r.2.2.1 by omega, p4.1]; exact k5), List.append_nil]
            exact rd_cl2 _ _ ((nd_c_g _ _ (nd_mono (fun x hx => by omega) n4)).trans l1') ((nd_c_g _ _ (nd_mono (fun x hx => by omega) n4)).trans k2')
    · rw [if_neg hk, if_neg hk]
      exact ⟨_, _, rfl, h1, c1, n1, y1, rfl, nd_t_s _ _ _ u1, s1, l1, k1⟩
end Rd5
end
/-! part 66 -/
section
/-! Calls, atoms, any E. -/
section Rd6
variable {K : Nat → Int32} {V : Nat → Int64} {b : Nat} {S0 : wd_S} {i m : Nat} {sc : List (Int64 × Nat)} {ms : Int32} {S S' S1 : wd_S} {e : ps_E} {s : Nat} {k : Int32} {n c d : Nat} {a z u v : Int32} {self : ps_P} {x : Int64}
theorem rd_87_b (h : rd_bd b S0 e s S) : ∃ S', fn_Reader_takeCall_87 (rc_Reader_takeE n) z S = some (z, S') ∧ rd_bd b S0 e s S' := by
  unfold fn_Reader_takeCall_87
  rw [fo_takeKind, wd_d_s]
  exact ⟨_, rfl, rd_bd_tk h (by decide) (by decide)⟩
theorem rd_43_b {f : Nat} {l : Int32} (h : rd_bd b S0 e s S) : ∃ S', fn_Reader_takeCall_43 (rc_Reader_takeE n) (f + 1) a z l S = some (z, S') ∧ rd_bd b S0 e s S' := by
  rw [fn_Reader_takeCall_43]
  split
  · rw [if_neg (rd_bd_ne h (by decide) (by decide))]
    exact rd_87_b h
  · exact rd_87_b h
/-- further arguments and the bracket behind them -/
def ps_more (K : Nat → Int32) (self : ps_P) (sc : List (Int64 × Nat)) (f i m : Nat) : Except ps_E ((List tr_T × List (Nat × Nat) × Nat × Nat × Nat) × Nat) := ps_b (ps_args K self sc f i m) fun r => ps_b (ps_take K 16 r.2.2.2.1) fun i2 => .ok (r, i2)
def rd_Z (K : Nat → Int32) (b : Nat) (S0 : wd_S) (m : Nat) (sc : List (Int64 × Nat)) (ms : Int32) (c d y : Nat) (v : Int32) (zs : List Nat) (sz lt : Nat) (S : wd_S) (r : Except ps_E ((List tr_T × List (Nat × Nat) × Nat × Nat × Nat) × Nat)) (S' : wd_S) : Prop := match r with
  | .error e => rd_bd b S0 e sc.length S'
  | .ok w => rd_h K b S0 w.2 w.1.2.2.2.2 sc (rd_ms ms w.1.2.1) S' ∧ S'.1 (b + 1) 6 = Int32.ofNat (c + w.1.2.2.1) ∧ nd_g (b + 1) (fun x => x < c ∧ x ≠ y) S S' ∧ ∃ zs', nd_o (b + 1) S' y 5 v (zs ++ zs') (sz + w.1.2.2.1) (lt + (w.1.2.2.2.2 - m)) ∧ zs'.length = w.1.1.length ∧ (∀ j, (hj : j < zs'.length) → nd_t (b + 1) S' c (c + w.1.2.2.1) d zs'[j] (tr_ls w.1.1 j)) ∧ nd_c (b + 1) S' w.1.2.2.1 c = ps_cl w.1.2.1
theorem rd_Z0 (hX : rd_X K V b S0) {y : Nat} {zs : List Nat} {sz lt : Nat} (h : rd_h K b S0 i m sc ms S) (hc : S.1 (b + 1) 6 = Int32.ofNat c) (ho : nd_o (b + 1) S y 5 v zs sz lt) : ∃ S', fn_Reader_takeCall_87 (rc_Reader_takeE n) z S = some (z, S') ∧ rd_Z K b S0 m sc ms c d y v zs sz lt S (ps_b (.ok ([], [], 0, i, m)) fun r => ps_b (ps_take K 16 r.2.2.2.1) fun i2 => .ok (r, i2)) S' := by
  unfold fn_Reader_takeCall_87
  rw [fo_takeKind, wd_d_s]
  refine ⟨_, rfl, ?_⟩
  show rd_Z K b S0 m sc ms c d y v zs sz lt S (ps_b (ps_take K 16 i) _) _
  cases q : ps_take K 16 i with
  | error e => exact rd_tk_er hX h q
  | ok j =>
    refine ⟨rd_tk_ok hX h q, ?_, rd_tk_nd hX.1, [], ?_, rfl, fun j hj => absurd hj (Nat.not_lt_zero _), rfl⟩
    · rw [rd_tk_c hX.1]
      exact hc
    · show nd_o (b + 1) _ y 5 v (zs ++ []) (sz + 0) (lt + (m - m))
      rw [List.append_nil, Nat.add_zero, Nat.sub_self, Nat.add_zero]
      exact nd_o_g (p := fun _ => True) trivial (rd_tk_nd hX.1) ho
theorem rd_args (hX : rd_X K V b S0) (hn : 5 ≤ n) (hs : rd_C K b S0 sc d (self sc) (fun S => rc_Reader_takeE n 43 (a + 1) 0 S)) (hgd : ∀ sc i m q, self sc i m = .ok q → ps_good K d i m q) : ∀ (f F i m : Nat) (ms : Int32) (c y : Nat) (zs : List Nat) (sz lt l : Nat) (S : wd_S), l + f = 1500 → f < F → rd_h K b S0 i m sc ms S → S.1 (b + 1) 6 = Int32.ofNat c → c ≤ i → y < c → nd_o (b + 1) S y 5 v zs sz lt → zs.length = l + 1 → ∃ S', fn_Reader_takeCall_43 (rc_Reader_takeE n) F a (Int32.ofNat y) (Int32.ofNat l) S = some (Int32.ofNat y, S') ∧ rd_Z K b S0 m sc ms c d y v zs sz lt S (ps_more K self sc f i m) S' := by
  intro f
  induction f with
  | zero =>
    intro F i m ms c y zs sz lt l S hl hF h hc hci hy ho hz
    obtain ⟨F, rfl⟩ : ∃ g, F = g + 1 := ⟨F - 1, by omega⟩
    rw [fn_Reader_takeCall_43, if_neg (fun q => by have := (mo_lt (m := 1500) (b := 1500) (by omega) (by omega) rfl).mp q; omega)]
    exact rd_Z0 hX h hc ho
  | succ f ih =>
    intro F i m ms c y zs sz lt l S hl hF h hc hci hy ho hz
    obtain ⟨F, rfl⟩ : ∃ g, F = g + 1 := ⟨F - 1, by omega⟩
    rw [fn_Reader_takeCall_43, if_pos ((mo_lt (m := 1500) (b := 1500) (by omega) (by omega) rfl).mpr (by omega)), h.2.2.2.2.1]
    unfold ps_more ps_args
    by_cases hk : K i = 17
    · rw [if_pos hk, if_pos hk, fo_takeKind, wd_d_s]
      cases q1 : ps_take K 17 i with
      | error e =>
        have h1 := rd_tk_er hX h q1
        rw [rd_r2 hX h1.1, if_pos (rd_t2 hX)]
        obtain ⟨S2, e2, h2⟩ := rd_ba (a := a + 1) (y := Int32.ofNat y) hX hn h1
        rw [e2]
        obtain ⟨F, rfl⟩ : ∃ g, F = g + 1 := ⟨F - 1, by omega⟩
        exact rd_43_b h2
      | ok i1 =>
        obtain ⟨t1, t2, rfl, t4⟩ := ps_take_ok q1
        have h1 := rd_tk_ok hX h q1
        rw [rd_r2 hX h1.1, if_pos (rd_t2 hX)]
        obtain ⟨S2, e2, a2⟩ := rd_ea hX hs (hgd sc _ _) h1 (by rw [rd_tk_c hX.1]; exact hc) (by omega) hy (nd_o_g (p := fun _ => True) trivial (rd_tk_nd hX.1) ho) (by omega)
        rw [e2, im_s]
        show ∃ S', fn_Reader_takeCall_43 (rc_Reader_takeE n) F a (Int32.ofNat y) (Int32.ofNat (l + 1)) S2 = some (Int32.ofNat y, S') ∧ rd_Z K b S0 m sc ms c d y v zs sz lt S (ps_b (ps_b (self sc (i + 1) m) _) _) S'
        cases q2 : self sc (i + 1) m with
        | error e =>
          rw [q2] at a2
          obtain ⟨F, rfl⟩ : ∃ g, F = g + 1 := ⟨F - 1, by omega⟩
          exact rd_43_b a2
        | ok q =>
          rw [q2] at a2
          obtain ⟨g1, g2, g3, g4, g5, g6, g7, -⟩ := hgd _ _ _ q q2
          obtain ⟨h3, c3, n3, z1, w1, u1, l1⟩ := a2
          obtain ⟨S3, e3, r3⟩ := ih F q.2.2.2.1 q.2.2.2.2 _ (c + q.2.2.1) y (zs ++ [z1]) _ _ (l + 1) S2 (by omega) (by omega) h3 c3 (by omega) (by omega) w1 (by rw [List.length_append, hz]; rfl)
          refine ⟨S3, e3, ?_⟩
          unfold ps_more at r3
          show rd_Z K b S0 m sc ms c d y v zs sz lt S (ps_b (ps_b (ps_args K self sc f q.2.2.2.1 q.2.2.2.2) _) _) S3
          cases q3 : ps_args K self sc f q.2.2.2.1 q.2.2.2.2 with
          | error e =>
            rw [q3] at r3
            exact r3
          | ok r =>
            rw [q3] at r3
            obtain ⟨j1, j2, j3, j4, j5, -⟩ := ps_args_good hgd _ _ _ _ q3
            have r3 : rd_Z K b S0 q.2.2.2.2 sc _ (c + q.2.2.1) d y v (zs ++ [z1]) _ _ S2 (ps_b (ps_take K 16 r.2.2.2.1) fun i2 => .ok (r, i2)) S3 := r3
            show rd_Z K b S0 m sc ms c d y v zs sz lt S (ps_b (ps_take K 16 r.2.2.2.1) _) S3
            cases q4 : ps_take K 16 r.2.2.2.1 with
            | error e =>
              rw [q4] at r3
              exact r3
            | ok i2 =>
              rw [q4] at r3
              obtain ⟨h4, c4, n4, zs', w2, y2, u2, l2⟩ := r3
              have w2 : nd_o (b + 1) S3 y 5 v ((zs ++ [z1]) ++ zs') (sz + q.2.2.1 + r.2.2.1) (lt + (q.2.2.2.2 - m) + (r.2.2.2.2 - q.2.2.2.2)) := w2
              have u2 : ∀ j, (hj : j < zs'.length) → nd_t (b + 1) S3 (c + q.2.2.1) (c + q.2.2.1 + r.2.2.1) d zs'[j] (tr_ls r.1 j) := u2
              obtain ⟨x1, x2⟩ := nd_t_b u1
              have n4' : nd_g (b + 1) (fun x => x < c + q.2.2.1 ∧ x ≠ y) S2 S3 := n4
              refine ⟨?_, ?_, ?_, z1 :: zs', ?_, ?_, fun j hj => ?_, ?_⟩
              · show rd_h K b S0 i2 r.2.2.2.2 sc (rd_ms ms (q.2.1 ++ r.2.1)) S3
                rw [rd_ms_a]
                exact h4
              · show S3.1 (b + 1) 6 = Int32.ofNat (c + (q.2.2.1 + r.2.2.1))
                rw [← Nat.add_assoc]
                exact c4
              · exact nd_trans (rd_tk_nd (k := 17) hX.1) (nd_trans n3 (nd_mono (fun x hx => ⟨by omega, hx.2⟩) n4'))
              · show nd_o (b + 1) S3 y 5 v (zs ++ z1 :: zs') (sz + (q.2.2.1 + r.2.2.1)) (lt + (r.2.2.2.2 - m))
                rw [List.append_cons, show sz + (q.2.2.1 + r.2.2.1) = sz + q.2.2.1 + r.2.2.1 by omega, show lt + (r.2.2.2.2 - m) = lt + (q.2.2.2.2 - m) + (r.2.2.2.2 - q.2.2.2.2) by omega]
                exact w2
              · show zs'.length + 1 = r.1.length + 1
                rw [y2]
              · show nd_t (b + 1) S3 c (c + (q.2.2.1 + r.2.2.1)) d (z1 :: zs')[j] (tr_ls (q.1 :: r.1) j)
                cases j with
                | zero => exact nd_t_r (Nat.le_refl _) (by omega) _ _ _ (nd_t_g (nd_mono (fun x hx => by omega) n4') _ _ _ u1)
                | succ j => exact nd_t_r (by omega) (by omega) _ _ _ (u2 j (Nat.lt_of_succ_lt_succ hj))
              · show nd_c (b + 1) S3 (q.2.2.1 + r.2.2.1) c = ps_cl (q.2.1 ++ r.2.1)
                exact rd_cl2 _ _ ((nd_c_g _ _ (nd_mono (fun x hx => by omega) n4')).trans l1) l2
    · rw [if_neg hk, if_neg hk]
      exact rd_Z0 hX h hc ho
theorem rd_call (hX : rd_X K V b S0) (hn : 5 ≤ n) (hs : rd_C K b S0 sc d (self sc) (fun S => rc_Reader_takeE n 43 (a + 1) 0 S)) (hgd : ∀ sc i m q, self sc i m = .ok q → ps_good K d i m q) {o : Nat} (h : rd_h K b S0 i m sc ms S) (hc : S.1 (b + 1) 6 = Int32.ofNat c) (hco : c ≤ o) (hoi : i = o + 1) : ∃ w S', fn_Reader_takeCall (rc_Reader_takeE n) (Int32.ofNat o) a S = some (w, S') ∧ rd_R K b S0 m sc ms c (d + 1) S (ps_call K self sc o i m) w S' := by
  have hb := hX.1
  have hi := h.2.1
  unfold fn_Reader_takeCall ps_call
  rw [rd_r2 hX h.1, if_pos (rd_t2 hX), fo_open, wd_c_s, fo_takeKind, wd_d_s, hc]
  have h1 := rd_op_h (k := 5) (v := Int32.ofNat o) hb h
  obtain ⟨o1, o2, o3⟩ := nd_op (k := 5) (v := Int32.ofNat o) (rd_L hX) hc (show c < 1500 by omega)
  rw [if_neg (by decide)] at o3
  cases q1 : ps_take K 15 i with
  | error e =>
    have h2 := rd_tk_er hX h1 q1
    rw [if_neg (rd_bd_ne h2 (by decide) (by decide)), rd_r2 hX h2.1, if_pos (rd_t2 hX)]
    obtain ⟨S2, e2, h3⟩ := rd_ba (a := a + 1) (y := Int32.ofNat c) hX hn h2
    rw [e2, show wd_F = 999999 + 1 from rfl]
    obtain ⟨S3, e3, h4⟩ := rd_43_b (a := a) (z := Int32.ofNat c) (l := 0) (f := 999999) (n := n) h3
    exact ⟨_, _, e3, h4⟩
  | ok i1 =>
    obtain ⟨t1, t2, rfl, t4⟩ := ps_take_ok q1
    have h2 := rd_tk_ok hX h1 q1
    have c2 : (fo_tk 15 (fo_op (b + 1) 5 (Int32.ofNat o) S)).1 (b + 1) 6 = Int32.ofNat (c + 1) := by rw [rd_tk_c hb]; exact o1
    have w0 := nd_o_g (p := fun _ => True) trivial (rd_tk_nd (k := 15) hb) o3
    have o2 := nd_trans o2 (rd_tk_nd (k := 15) hb)
    generalize fo_tk 15 (fo_op (b + 1) 5 (Int32.ofNat o) S) = S2 at h2 c2 w0 o2 ⊢
    rw [h2.2.2.2.2.1]
    show ∃ w S', _ ∧ rd_R K b S0 m sc ms c (d + 1) S (if K (i + 1) = 16 then _ else _) w S'
    by_cases hk : K (i + 1) = 16
    · rw [if_pos hk, if_pos hk]
      unfold fn_Reader_takeCall_87
      rw [fo_takeKind, wd_d_s]
      refine ⟨_, _, rfl, ?_⟩
      cases q2 : ps_take K 16 (i + 1) with
      | error e => exact rd_tk_er hX h2 q2
      | ok i2 =>
        have w1 := nd_o_g (p := fun _ => True) trivial (rd_tk_nd (k := 16) hb) w0
        refine ⟨rd_tk_ok hX h2 q2, ?_, nd_trans (nd_mono (fun x hx => by omega) o2) (rd_tk_nd hb), c, rfl, ?_, ?_, ?_, ?_⟩
        · rw [rd_tk_c hb]
          exact c2
        · exact nd_t_mk (zs := []) (Nat.le_refl _) (by show c < c + 1; omega) w1 (fun j hj => absurd hj (Nat.not_lt_zero _))
        · rw [w1.2.2.2.1]
        · rw [w1.2.2.2.2.1]
          show Int32.ofNat 0 = Int32.ofNat (m - m)
          rw [Nat.sub_self]
        · show nd_c (b + 1) _ 1 c = [(Int32.ofNat o, Int32.ofNat (1 - 1))]
          rw [nd_c_s, if_pos w1.1, w1.2.1, w1.2.2.1]
          rfl
    · rw [if_neg hk, if_neg hk, rd_r2 hX h2.1, if_pos (rd_t2 hX)]
      obtain ⟨S3, e3, a3⟩ := rd_ea hX hs (hgd sc _ _) h2 c2 (by omega) (Nat.lt_succ_self c) w0 (by decide)
      rw [e3]
      cases q2 : self sc (i + 1) m with
      | error e =>
        rw [q2] at a3
        obtain ⟨S4, e4, h4⟩ := rd_43_b (a := a) (z := Int32.ofNat c) (l := 0) (f := 999999) (n := n) a3
        exact ⟨_, _, e4, h4⟩
      | ok q =>
        rw [q2] at a3
        obtain ⟨g1, g2, g3, g4, g5, g6, g7, -⟩ := hgd _ _ _ q q2
        obtain ⟨h3, c3, n3, z1, w1, u1, l1⟩ := a3
        obtain ⟨S4, e4, r4⟩ := rd_args hX hn hs hgd 1500 wd_F q.2.2.2.1 q.2.2.2.2 _ _ c _ _ _ 0 S3 rfl (by decide) h3 c3 (by omega) (by omega) w1 rfl
        refine ⟨_, _, e4, ?_⟩
        unfold ps_more at r4
        show rd_R K b S0 m sc ms c (d + 1) S (ps_b (ps_args K self sc 1500 q.2.2.2.1 q.2.2.2.2) _) _ S4
        cases q3 : ps_args K self sc 1500 q.2.2.2.1 q.2.2.2.2 with
        | error e =>
          rw [q3] at r4
          exact r4
        | ok r =>
          rw [q3] at r4
          obtain ⟨j1, j2, j3, j4, j5, -⟩ := ps_args_good hgd _ _ _ _ q3
          have r4 : rd_Z K b S0 q.2.2.2.2 sc _ (c + 1 + q.2.2.1) d c (Int32.ofNat o) ([] ++ [z1]) _ _ S3 (ps_b (ps_take K 16 r.2.2.2.1) fun i2 => .ok (r, i2)) S4 := r4
          show rd_R K b S0 m sc ms c (d + 1) S (ps_b (ps_take K 16 r.2.2.2.1) _) _ S4
          cases q4 : ps_take K 16 r.2.2.2.1 with
          | error e =>
            rw [q4] at r4
            exact r4
          | ok i2 =>
            rw [q4] at r4
            obtain ⟨h4, c4, n4, zs', w2, y2, u2, l2⟩ := r4
            have w2 : nd_o (b + 1) S4 c 5 (Int32.ofNat o) (z1 :: zs') (1 + q.2.2.1 + r.2.2.1) (0 + (q.2.2.2.2 - m) + (r.2.2.2.2 - q.2.2.2.2)) := w2
            have n4 : nd_g (b + 1) (fun x => x < c + 1 + q.2.2.1 ∧ x ≠ c) S3 S4 := n4
            have y2 : zs'.length = r.1.length := y2
            have u2 : ∀ j, (hj : j < zs'.length) → nd_t (b + 1) S4 (c + 1 + q.2.2.1) (c + 1 + q.2.2.1 + r.2.2.1) d zs'[j] (tr_ls r.1 j) := u2
            refine ⟨?_, ?_, ?_, c, rfl, ?_, ?_, ?_, ?_⟩
            · show rd_h K b S0 i2 r.2.2.2.2 sc (rd_ms ms ((o, r.1.length + 2) :: (q.2.1 ++ r.2.1))) S4
              rw [show rd_ms ms ((o, r.1.length + 2) :: (q.2.1 ++ r.2.1)) = rd_ms ms (q.2.1 ++ r.2.1) from congrArg (fun z => rd_ms z (q.2.1 ++ r.2.1)) (if_neg (fun z => absurd z.1 (Nat.succ_ne_zero _))), rd_ms_a]
              exact h4
            · show S4.1 (b + 1) 6 = Int32.ofNat (c + (1 + q.2.2.1 + r.2.2.1))
              rw [show c + (1 + q.2.2.1 + r.2.2.1) = c + 1 + q.2.2.1 + r.2.2.1 by omega]
              exact c4
            · exact nd_trans (nd_mono (fun x hx => by omega) o2) (nd_trans (nd_mono (fun x hx => by omega) n3) (nd_mono (fun x hx => by omega) n4))
            · show nd_t (b + 1) S4 c (c + (1 + q.2.2.1 + r.2.2.1)) (d + 1) c (tr_mk 5 (Int32.ofNat o) o (r.1.length + 1) (tr_ls (q.1 :: r.1)))
              rw [show r.1.length + 1 = (z1 :: zs').length by rw [← y2]; rfl]
              refine nd_t_mk (zs := z1 :: zs') (Nat.le_refl _) (by omega) w2 (fun j hj => ?_)
              cases j with
              | zero => exact nd_t_r (by omega) (by omega) _ _ _ (nd_t_g (nd_mono (fun x hx => by omega) n4) _ _ _ u1)
              | succ j => exact nd_t_r (by omega) (by omega) _ _ _ (u2 j (Nat.lt_of_succ_lt_succ hj))
            · rw [w2.2.2.2.1]
            · rw [w2.2.2.2.2.1]
              show Int32.ofNat (0 + (q.2.2.2.2 - m) + (r.2.2.2.2 - q.2.2.2.2)) = Int32.ofNat (r.2.2.2.2 - m)
              congr 1
              omega
            · show nd_c (b + 1) S4 (1 + q.2.2.1 + r.2.2.1) c = (Int32.ofNat o, Int32.ofNat (r.1.length + 2 - 1)) :: ps_cl (q.2.1 ++ r.2.1)
              rw [show 1 + q.2.2.1 + r.2.2.1 = (q.2.2.1 + r.2.2.1) + 1 by omega, nd_c_s, if_pos w2.1, w2.2.1, w2.2.2.1, show (z1 :: zs').length = r.1.length + 2 - 1 by rw [← y2]; rfl]
              congr 1
              exact rd_cl2 _ _ ((nd_c_g _ _ (nd_mono (fun x hx => by omega) n4)).trans l1) l2
theorem rd_name_b (hX : rd_X K V b S0) (h : rd_bd b S0 e s S) (hs : s ≤ 1000) : ∃ w S', fn_Reader_nameAlone z S = some (w, S') ∧ rd_bd b S0 e s S' := by
  obtain ⟨w, w1, -⟩ := fo_lastOf (r := 50) (x := lo_at 9 z S) (S := S) s wd_F (by omega) (by rw [show wd_F = 1000000 from rfl]; omega)
  have w1 : fn_LongRow_lastOf 50 (lo_at 9 z S) (Int32.ofNat s) S = some (w, S) := w1
  have h38 : ∀ (l : Int32) (S2 : wd_S), rd_bd b S0 e s S2 → ∃ w S', fn_Reader_nameAlone_38 l S2 = some (w, S') ∧ rd_bd b S0 e s S' := by
    intro l S2 h2
    unfold fn_Reader_nameAlone_38
    rw [rd_r2 hX h2.1, if_pos (rd_t2 hX), ro_at_ok, wd_c_s, fo_open, wd_c_s]
    exact ⟨_, _, rfl, rd_op_b hX.1 h2⟩
  unfold fn_Reader_nameAlone
  rw [fo_value, wd_c_s, h.2.1, w1, wd_c_s]
  split
  · split
    · exact h38 _ _ (rd_bd_i (by decide) h)
    · exact h38 _ _ h
  · exact h38 _ _ h
theorem rd_atom (hX : rd_X K V b S0) (hn : 5 ≤ n) (hs : ∀ n', n ≤ n' → rd_C K b S0 sc d (self sc) (fun S => rc_Reader_takeE n' 43 (a + 1) 0 S)) (hgd : ∀ sc i m q, self sc i m = .ok q → ps_good K d i m q) : rd_C K b S0 sc (d + 1) (ps_atom K V self sc) (fun S => fn_Reader_takeAtom (rc_Reader_takeE (n + 1)) a S) := by
  intro i m ms c S h hc hci
  have hb := hX.1
  have e4 : S.1 47 4 = K i := h.2.2.2.2.1
  have hsl : sc.length ≤ 1000 := by have := h.2.2.2.2.2.2.2.1; have := h.2.2.2.2.2.2.2.2.2.1; omega
  show ∃ x S', fn_Reader_takeAtom (rc_Reader_takeE (n + 1)) a S = some (x, S') ∧ _
  unfold fn_Reader_takeAtom ps_atom
  rw [e4]
  by_cases k1 : K i = 1
  · rw [if_pos k1, if_neg (show ¬K i = 7 by rw [k1]; decide), if_pos k1]
    obtain ⟨x, S', e1, r⟩ := rd_num (s := 1) hX h hc hci
    rw [e1, wd_c_s]
    exact ⟨_, _, rfl, rd_R_d (by omega) r⟩
  · rw [if_neg k1]
    by_cases k2 : K i = 2
    · rw [if_pos k2, if_neg (show ¬K i = 7 by rw [k2]; decide), if_neg k1, if_pos k2, fo_takeKind, wd_d_s]
      cases q1 : ps_take K 2 i with
      | error e =>
        have h1 := rd_tk_er hX h q1
        rw [if_neg (rd_bd_ne h1 (by decide) (by decide))]
        obtain ⟨w, S', e1, h2⟩ := rd_name_b (z := (fo_tk 2 S).1 47 3 - 1) hX h1 hsl
        rw [e1, wd_c_s]
        exact ⟨_, _, rfl, h2⟩
      | ok i1 =>
        obtain ⟨t1, t2, rfl, t4⟩ := ps_take_ok q1
        have h1 := rd_tk_ok hX h q1
        have c1 : (fo_tk 2 S).1 (b + 1) 6 = Int32.ofNat c := by rw [rd_tk_c hb]; exact hc
        rw [h1.2.2.2.2.1, h1.2.2.2.1, im_p]
        show ∃ x S', _ ∧ rd_R K b S0 m sc ms c (d + 1) S (if K (i + 1) = 15 then _ else _) x S'
        by_cases k15 : K (i + 1) = 15
        · rw [if_pos k15, if_pos k15, rc_54]
          obtain ⟨w, S', e2, r⟩ := rd_call hX hn (hs n (Nat.le_refl _)) hgd h1 c1 hci rfl
          rw [e2, wd_c_s]
          exact ⟨_, _, rfl, rd_R_pre (rd_tk_nd hb) r⟩
        · rw [if_neg k15, if_neg k15]
          obtain ⟨w, S', e2, r⟩ := rd_name hX h1 rfl k2 c1 hci
          rw [e2, wd_c_s]
          exact ⟨_, _, rfl, rd_R_pre (rd_tk_nd hb) (rd_R_d (d := 1) (r := .ok (ps_name V sc i (i + 1) m)) (by omega) r)⟩
    · rw [if_neg k2]
      by_cases k7 : K i = 7
      · rw [if_pos k7, if_pos k7, fo_takeKind, wd_d_s]
        cases q1 : ps_take K 7 i with
        | error e =>
          have h1 := rd_tk_er hX h q1
          unfold fn_Reader_takeNumber
          rw [fo_value, wd_c_s, fo_takeKind, wd_d_s]
          have h2 := rd_bd_tk (k := 1) h1 (by decide) (by decide)
          rw [rd_r2 hX h2.1, if_pos (rd_t2 hX), fo_open, wd_c_s, wd_c_s]
          exact ⟨_, _, rfl, rd_op_b hb h2⟩
        | ok i1 =>
          obtain ⟨t1, t2, rfl, t4⟩ := ps_take_ok q1
          have h1 := rd_tk_ok hX h q1
          obtain ⟨x, S', e1, r⟩ := rd_num (s := -1) hX h1 (c := c) (by rw [rd_tk_c hb]; exact hc) (by omega)
          rw [e1, wd_c_s]
          exact ⟨_, _, rfl, rd_R_pre (rd_tk_nd hb) (rd_R_d (by omega) r)⟩
      · rw [if_neg k7, if_neg k7, if_neg k1, if_neg k2]
        by_cases k15 : K i = 15
        · rw [if_pos k15, if_pos k15, fo_takeKind, wd_d_s]
          cases q1 : ps_take K 15 i with
          | error e =>
            have h1 := rd_tk_er hX h q1
            obtain ⟨n, rfl⟩ : ∃ g, n = g + 5 := ⟨n - 5, by omega⟩
            rw [rd_b43 (n := n + 1) h1, wd_c_s, fo_takeKind, wd_d_s]
            exact ⟨_, _, rfl, rd_bd_tk (rd_bd_rf h1).1 (by decide) (by decide)⟩
          | ok i1 =>
            obtain ⟨t1, t2, rfl, t4⟩ := ps_take_ok q1
            have h1 := rd_tk_ok hX h q1
            obtain ⟨x, S2, e1, r⟩ := hs (n + 1) (by omega) (i + 1) m ms c (fo_tk 15 S) h1 (by rw [rd_tk_c hb]; exact hc) (by omega)
            have e1 : rc_Reader_takeE (n + 1) 43 (a + 1) 0 (fo_tk 15 S) = some (x, S2) := e1
            rw [e1, wd_c_s, fo_takeKind, wd_d_s]
            refine ⟨_, _, rfl, ?_⟩
            show rd_R K b S0 m sc ms c (d + 1) S (ps_b (self sc (i + 1) m) _) x _
            cases q2 : self sc (i + 1) m with
            | error e =>
              rw [q2] at r
              exact rd_bd_tk r (by decide) (by decide)
            | ok q =>
              rw [q2] at r
              obtain ⟨h3, c3, n3, y, ey, u3, s3, l3, k3⟩ := r
              show rd_R K b S0 m sc ms c (d + 1) S (ps_b (ps_take K 16 q.2.2.2.1) _) x _
              cases q3 : ps_take K 16 q.2.2.2.1 with
              | error e => exact rd_tk_er hX h3 q3
              | ok i2 =>
                obtain ⟨v1, v2, v3, v4, v5, v6⟩ := rd_tk_nd (p := fun _ => True) (k := 16) (S := S2) hb y trivial
                refine ⟨rd_tk_ok hX h3 q3, ?_, nd_trans (rd_tk_nd hb) (nd_trans n3 (rd_tk_nd hb)), y, ey, nd_t_s _ _ _ (nd_t_g (rd_tk_nd hb) _ _ _ u3), v4.trans s3, v5.trans l3, (nd_c_g _ _ (rd_tk_nd hb)).trans k3⟩
                rw [rd_tk_c hb]
                exact c3
        · rw [if_neg k15, if_neg k15, fo_refuse, wd_d_s]
          exact ⟨_, _, rfl, rd_refuse h⟩
end Rd6
end
/-! part 67 -/
section
/-! Any E of the class's reader. -/
section Rd7
variable {K : Nat → Int32} {V : Nat → Int64} {b : Nat} {S0 : wd_S} {i m : Nat} {sc : List (Int64 × Nat)} {ms : Int32} {S S' S1 : wd_S} {e : ps_E} {s : Nat} {k : Int32} {n c d : Nat} {a z u v : Int32} {self : ps_P} {x : Int64}
theorem fo_within : fn_Reader_refuseWithin S = some (if S.1 47 4 = 3 ∨ S.1 47 4 = 4 ∨ S.1 47 4 = 7 ∨ S.1 47 4 = 1 ∨ S.1 47 4 = 2 ∨ S.1 47 4 = 15 then fo_fa 6 (S.1 47 3) S else fo_rf S) := by
  unfold fn_Reader_refuseWithin fn_Reader_refuseWithin_97
  simp only [fo_faultAt, fo_refuse, wd_d_s]
  generalize S.1 47 4 = w
  by_cases h1 : w = 1
  · rw [if_pos h1, if_pos (show w = 3 ∨ w = 4 ∨ w = 7 ∨ w = 1 ∨ w = 2 ∨ w = 15 by rw [h1]; decide)]
  rw [if_neg h1]
  by_cases h2 : w = 2
  · rw [if_pos h2, if_pos (show w = 3 ∨ w = 4 ∨ w = 7 ∨ w = 1 ∨ w = 2 ∨ w = 15 by rw [h2]; decide)]
  rw [if_neg h2]
  by_cases h3 : w = 3
  · rw [if_pos h3, if_pos (show w = 3 ∨ w = 4 ∨ w = 7 ∨ w = 1 ∨ w = 2 ∨ w = 15 by rw [h3]; decide)]
  rw [if_neg h3]
  by_cases h4 : w = 4
  · rw [if_pos h4, if_pos (show w = 3 ∨ w = 4 ∨ w = 7 ∨ w = 1 ∨ w = 2 ∨ w = 15 by rw [h4]; decide)]
  rw [if_neg h4]
  by_cases h5 : w = 5
  · rw [if_pos h5, if_neg (show ¬(w = 3 ∨ w = 4 ∨ w = 7 ∨ w = 1 ∨ w = 2 ∨ w = 15) by rw [h5]; decide)]
  rw [if_neg h5]
  by_cases h6 : w = 6
  · rw [if_pos h6, if_neg (show ¬(w = 3 ∨ w = 4 ∨ w = 7 ∨ w = 1 ∨ w = 2 ∨ w = 15) by rw [h6]; decide)]
  rw [if_neg h6]
  by_cases h7 : w = 7
  · rw [if_pos h7, if_pos (show w = 3 ∨ w = 4 ∨ w = 7 ∨ w = 1 ∨ w = 2 ∨ w = 15 by rw [h7]; decide)]
  rw [if_neg h7]
  by_cases h8 : w = 8
  · rw [if_pos h8, if_neg (show ¬(w = 3 ∨ w = 4 ∨ w = 7 ∨ w = 1 ∨ w = 2 ∨ w = 15) by rw [h8]; decide)]
  rw [if_neg h8]
  by_cases h9 : w = 9
  · rw [if_pos h9, if_neg (show ¬(w = 3 ∨ w = 4 ∨ w = 7 ∨ w = 1 ∨ w = 2 ∨ w = 15) by rw [h9]; decide)]
  rw [if_neg h9]
  by_cases h10 : w = 10
  · rw [if_pos h10, if_neg (show ¬(w = 3 ∨ w = 4 ∨ w = 7 ∨ w = 1 ∨ w = 2 ∨ w = 15) by rw [h10]; decide)]
  rw [if_neg h10]
  by_cases h11 : w = 11
  · rw [if_pos h11, if_neg (show ¬(w = 3 ∨ w = 4 ∨ w = 7 ∨ w = 1 ∨ w = 2 ∨ w = 15) by rw [h11]; decide)]
  rw [if_neg h11]
  by_cases h12 : w = 12
  · rw [if_pos h12, if_neg (show ¬(w = 3 ∨ w = 4 ∨ w = 7 ∨ w = 1 ∨ w = 2 ∨ w = 15) by rw [h12]; decide)]
  rw [if_neg h12]
  by_cases h13 : w = 13
  · rw [if_pos h13, if_neg (show ¬(w = 3 ∨ w = 4 ∨ w = 7 ∨ w = 1 ∨ w = 2 ∨ w = 15) by rw [h13]; decide)]
  rw [if_neg h13]
  by_cases h14 : w = 14
  · rw [if_pos h14, if_neg (show ¬(w = 3 ∨ w = 4 ∨ w = 7 ∨ w = 1 ∨ w = 2 ∨ w = 15) by rw [h14]; decide)]
  rw [if_neg h14]
  by_cases h15 : w = 15
  · rw [if_pos h15, if_pos (show w = 3 ∨ w = 4 ∨ w = 7 ∨ w = 1 ∨ w = 2 ∨ w = 15 by rw [h15]; decide)]
  rw [if_neg h15]
  rw [if_neg (show ¬(w = 3 ∨ w = 4 ∨ w = 7 ∨ w = 1 ∨ w = 2 ∨ w = 15) by
    rintro (h | h | h | h | h | h)
    · exact h3 h
    · exact h4 h
    · exact h7 h
    · exact h1 h
    · exact h2 h
    · exact h15 h)]
theorem rd_eq51 : (fun S => rc_Reader_takeE (n + 1) 51 a z S) = fun S => wd_c (rc_Reader_takeE n 52 a 0 S) fun x2 S1 => if (S1.1 47 4 == 8) = true then rd_tl (fun S => rc_Reader_takeE n 52 a 0 S) x2 (S1.1 47 4) S1 else some (x2, S1) := by
  funext S
  rw [rc_51]
  unfold fn_Reader_takeProduct
  congr 1
  funext x2 S1
  by_cases h : S1.1 47 4 = 8
  · rw [if_pos h, h, if_pos (by decide)]
    rfl
  · rw [if_neg h, if_neg (by rw [beq_iff_eq]; exact h)]
theorem rd_eq50 : (fun S => rc_Reader_takeE (n + 1) 50 a z S) = fun S => wd_c (rc_Reader_takeE n 51 a 0 S) fun x2 S1 => if (S1.1 47 4 == 6 || S1.1 47 4 == 7) = true then rd_tl (fun S => rc_Reader_takeE n 51 a 0 S) x2 (S1.1 47 4) S1 else some (x2, S1) := by
  funext S
  rw [rc_50]
  unfold fn_Reader_takeSum
  congr 1
  funext x2 S1
  by_cases h : S1.1 47 4 = 6
  · rw [if_pos h, if_pos (by rw [h]; decide)]
    rfl
  · rw [if_neg h]
    by_cases h2 : S1.1 47 4 = 7
    · rw [if_pos h2, if_pos (by rw [h2]; decide)]
      rfl
    · rw [if_neg h2, if_neg (by rw [Bool.or_eq_true, beq_iff_eq, beq_iff_eq]; rintro (q | q); exact h q; exact h2 q)]
theorem rd_eq49 : (fun S => rc_Reader_takeE (n + 1) 49 a z S) = fun S => wd_c (rc_Reader_takeE n 50 a 0 S) fun x2 S1 => if (S1.1 47 4 == 9 || S1.1 47 4 == 10) = true then rd_tl (fun S => rc_Reader_takeE n 50 a 0 S) x2 (S1.1 47 4) S1 else some (x2, S1) := by
  funext S
  rw [rc_49]
  unfold fn_Reader_takeComparison
  congr 1
  funext x2 S1
  by_cases h : S1.1 47 4 = 9
  · rw [if_pos h, if_pos (by rw [h]; decide)]
    rfl
  · rw [if_neg h]
    by_cases h2 : S1.1 47 4 = 10
    · rw [if_pos h2, if_pos (by rw [h2]; decide)]
      rfl
    · rw [if_neg h2, if_neg (by rw [Bool.or_eq_true, beq_iff_eq, beq_iff_eq]; rintro (q | q); exact h q; exact h2 q)]
theorem rd_ex (hX : rd_X K V b S0) : ∀ (r : Nat), r ≤ 24 → ∀ n, 6 * r + 5 ≤ n → ∀ sc, rd_C K b S0 sc (4 * r) (ps_ex K V r sc) (fun S => rc_Reader_takeE n 43 (Int32.ofNat (24 - r)) 0 S) := by
  intro r
  induction r with
  | zero =>
    intro _ n hn sc i m ms c S h hc hci
    obtain ⟨n, rfl⟩ : ∃ g, n = g + 1 := ⟨n - 1, by omega⟩
    show ∃ x S', rc_Reader_takeE (n + 1) 43 (Int32.ofNat 24) 0 S = some (x, S') ∧ rd_R K b S0 m sc ms c 0 S (if K i = 3 ∨ K i = 4 ∨ K i = 7 ∨ K i = 1 ∨ K i = 2 ∨ K i = 15 then .error (6, i) else .error (2, i)) x S'
    rw [rc_43]
    unfold fn_Reader_takeE
    rw [if_neg (by decide), fo_within, wd_d_s, h.2.2.2.2.1]
    refine ⟨_, _, rfl, ?_⟩
    split
    · exact rd_fault h (by decide)
    · exact rd_refuse h
  | succ r ih =>
    intro hr n hn sc
    obtain ⟨n, rfl⟩ : ∃ g, n = g + 6 := ⟨n - 6, by omega⟩
    have hgd : ∀ sc i m q, ps_ex K V r sc i m = .ok q → ps_good K (4 * r) i m q := fun sc i m q hq => ps_ex_good r sc i m q hq
    have ea : Int32.ofNat (24 - (r + 1)) + 1 = Int32.ofNat (24 - r) := by rw [im_s, show 24 - (r + 1) + 1 = 24 - r by omega]
    have hs : ∀ n', 6 * r + 5 ≤ n' → ∀ sc, rd_C K b S0 sc (4 * r) (ps_ex K V r sc) (fun S => rc_Reader_takeE n' 43 (Int32.ofNat (24 - (r + 1)) + 1) 0 S) := by
      rw [ea]
      exact ih (by omega)
    have h52 : rd_C K b S0 sc (4 * r + 1) (ps_atom K V (ps_ex K V r) sc) (fun S => rc_Reader_takeE (n + 2) 52 (Int32.ofNat (24 - (r + 1))) 0 S) := rd_atom hX (n := n) (by omega) (fun n' h' => hs n' (by omega) sc) hgd
    have h51 : rd_C K b S0 sc (4 * r + 2) (ps_product K V (ps_ex K V r) sc) (fun S => rc_Reader_takeE (n + 3) 51 (Int32.ofNat (24 - (r + 1))) 0 S) := by
      rw [rd_eq51]
      exact rd_two hX (by decide) h52 (fun e s S hb => ⟨_, _, rd_b52 hb, (rd_bd_rf hb).1⟩) (fun i m q hq => ps_atom_good hgd hq)
    have h50 : rd_C K b S0 sc (4 * r + 3) (ps_sum K V (ps_ex K V r) sc) (fun S => rc_Reader_takeE (n + 4) 50 (Int32.ofNat (24 - (r + 1))) 0 S) := by
      rw [rd_eq50]
      exact rd_two hX (by decide) h51 (fun e s S hb => ⟨_, _, rd_b51 hb, (rd_bd_rf hb).1⟩) (fun i m q hq => ps_two_good (fun i m q hq => ps_atom_good hgd hq) hq)
    have h49 : rd_C K b S0 sc (4 * r + 4) (ps_cmp K V (ps_ex K V r) sc) (fun S => rc_Reader_takeE (n + 5) 49 (Int32.ofNat (24 - (r + 1))) 0 S) := by
      rw [rd_eq49]
      exact rd_two hX (by decide) h50 (fun e s S hb => ⟨_, _, rd_b50 hb, (rd_bd_rf hb).1⟩) (fun i m q hq => ps_two_good (fun i m q hq => ps_two_good (fun i m q hq => ps_atom_good hgd hq) hq) hq)
    intro i m ms c S h hc hci
    show ∃ x S', rc_Reader_takeE (n + 5 + 1) 43 (Int32.ofNat (24 - (r + 1))) 0 S = some (x, S') ∧ rd_R K b S0 m sc ms c (4 * (r + 1)) S (if K i = 3 then ps_let K V (ps_ex K V r) sc i m else if K i = 4 then ps_if K (ps_ex K V r) sc i m else ps_cmp K V (ps_ex K V r) sc i m) x S'
    rw [rc_43]
    unfold fn_Reader_takeE
    rw [if_pos ((mo_lt (m := 24) (b := 24) (by omega) (by omega) rfl).mpr (by omega)), h.2.2.2.2.1]
    by_cases k3 : K i = 3
    · rw [if_pos k3, if_pos k3, rc_45]
      obtain ⟨x, S', e1, r1⟩ := rd_let hX (n := n + 4) (by omega) (hs (n + 4) (by omega)) hgd i m ms c S h hc hci
      have e1 : fn_Reader_takeLet (rc_Reader_takeE (n + 4)) (Int32.ofNat (24 - (r + 1))) S = some (x, S') := e1
      rw [e1, wd_c_s]
      exact ⟨_, _, rfl, rd_R_d (by omega) r1⟩
    · rw [if_neg k3, if_neg k3]
      by_cases k4 : K i = 4
      · rw [if_pos k4, if_pos k4, rc_48]
        obtain ⟨x, S', e1, r1⟩ := rd_if hX (n := n + 4) (by omega) (hs (n + 4) (by omega) sc) (hgd sc) i m ms c S h hc hci
        have e1 : fn_Reader_takeIf (rc_Reader_takeE (n + 4)) (Int32.ofNat (24 - (r + 1))) S = some (x, S') := e1
        rw [e1, wd_c_s]
        exact ⟨_, _, rfl, rd_R_d (by omega) r1⟩
      · rw [if_neg k4, if_neg k4]
        obtain ⟨x, S', e1, r1⟩ := h49 i m ms c S h hc hci
        have e1 : rc_Reader_takeE (n + 5) 49 (Int32.ofNat (24 - (r + 1))) 0 S = some (x, S') := e1
        rw [e1, wd_c_s]
        exact ⟨_, _, rfl, r1⟩
end Rd7
end
/-! part 68 -/
section
/-! How a program should be read: params, functions. -/
def ps_par (K : Nat → Int32) (V : Nat → Int64) (sc : List (Int64 × Nat)) (i : Nat) : Except ps_E (List (Int64 × Nat) × Nat) := ps_b (ps_new K (ps_look (V i) sc).isSome (decide (4 ≤ sc.length)) i) fun i1 => .ok ((V i, sc.length) :: sc, i1)
def ps_pars (K : Nat → Int32) (V : Nat → Int64) : Nat → List (Int64 × Nat) → Nat → Except ps_E (List (Int64 × Nat) × Nat)
  | 0, sc, i => .ok (sc, i)
  | f + 1, sc, i => if K i = 17 then ps_b (ps_take K 17 i) fun i1 => ps_b (ps_par K V sc i1) fun q => ps_pars K V f q.1 q.2 else .ok (sc, i)
/-- of a function: its name, params, tree, what is to be looked up, nodes, names -/
abbrev ps_F : Type := Int64 × Nat × tr_T × List (Nat × Nat) × Nat × Nat
def ps_head (K : Nat → Int32) (V : Nat → Int64) (fk : List Int64) (i : Nat) : Except ps_E (List (Int64 × Nat) × Nat) :=
  ps_b (ps_new K (decide (V i ∈ fk)) (decide (48 ≤ fk.length)) i) fun i1 => ps_b (ps_take K 15 i1) fun i2 => if K i2 = 16 then .ok ([], i2) else ps_b (ps_par K V [] i2) fun q => ps_pars K V 1500 q.1 q.2
def ps_body (K : Nat → Int32) (V : Nat → Int64) (o : Nat) (w : List (Int64 × Nat) × Nat) : Except ps_E (ps_F × Nat) :=
  ps_b (ps_take K 16 w.2) fun i4 => ps_b (ps_take K 14 i4) fun i5 => ps_b (ps_ex K V 24 w.1 i5 w.1.length) fun q => ps_b (ps_take K 18 q.2.2.2.1) fun i6 => .ok ((V o, w.1.length, q.1, q.2.1, q.2.2.1, q.2.2.2.2), i6)
def ps_fun (K : Nat → Int32) (V : Nat → Int64) (fk : List Int64) (i : Nat) : Except ps_E (ps_F × Nat) := ps_b (ps_head K V fk i) (ps_body K V i)
def ps_funs (K : Nat → Int32) (V : Nat → Int64) : Nat → List ps_F → Nat → Except ps_E (List ps_F)
  | 0, fs, _ => .ok fs
  | f + 1, fs, i => if K i = 20 then .ok fs else ps_b (ps_fun K V (fs.map (fun q => q.1)) i) fun q => ps_funs K V f (fs ++ [q.1]) q.2
def ps_prog (K : Nat → Int32) (V : Nat → Int64) : Except ps_E (List ps_F) := if K 0 = 19 then .error (1, 0) else ps_b (ps_fun K V [] 0) fun q => ps_funs K V 1500 [q.1] q.2
/-- a scope that has nothing but params -/
def ps_ps : List (Int64 × Nat) → Prop
  | [] => True
  | q :: r => q.2 = r.length ∧ ps_ps r
theorem ps_par_ok {K : Nat → Int32} {V : Nat → Int64} {sc : List (Int64 × Nat)} {i : Nat} {q : List (Int64 × Nat) × Nat} (h : ps_par K V sc i = .ok q) : K i = 2 ∧ i < 1500 ∧ q = ((V i, sc.length) :: sc, i + 1) ∧ ¬K (i + 1) = 19 ∧ sc.length < 4 ∧ ps_look (V i) sc = none := by
  obtain ⟨j, h1, h2⟩ := ps_b_ok h
  obtain ⟨h3, h4, h5⟩ := ps_new_ok h1
  obtain ⟨a1, a2, rfl, a4⟩ := ps_take_ok h3
  cases h2
  refine ⟨a1, a2, rfl, a4, by have := of_decide_eq_false h5; omega, ?_⟩
  cases e : ps_look (V i) sc with
  | none => rfl
  | some u => rw [e] at h4; cases h4
theorem ps_pars_ok {K : Nat → Int32} {V : Nat → Int64} : ∀ (f : Nat) (sc : List (Int64 × Nat)) (i : Nat) (q : List (Int64 × Nat) × Nat), ps_pars K V f sc i = .ok q → i ≤ 1500 → ¬K i = 19 → ps_ps sc → sc.length ≤ 4 → i ≤ q.2 ∧ q.2 ≤ 1500 ∧ ¬K q.2 = 19 ∧ ps_ps q.1 ∧ q.1.length ≤ 4 := by
  intro f
  induction f with
  | zero =>
    intro sc i q h h1 h2 h3 h4
    cases h
    exact ⟨Nat.le_refl _, h1, h2, h3, h4⟩
  | succ f ih =>
    intro sc i q h h1 h2 h3 h4
    unfold ps_pars at h
    split at h
    · obtain ⟨j, k1, k2⟩ := ps_b_ok h
      obtain ⟨w, k3, k4⟩ := ps_b_ok k2
      obtain ⟨-, a2, rfl, -⟩ := ps_take_ok k1
      obtain ⟨b1, b2, rfl, b4, b5, b6⟩ := ps_par_ok k3
      obtain ⟨c1, c2, c3, c4, c5⟩ := ih _ _ _ k4 (by show i + 1 + 1 ≤ 1500; omega) b4 ⟨rfl, h3⟩ (by show sc.length + 1 ≤ 4; omega)
      exact ⟨by have : i + 1 + 1 ≤ q.2 := c1; omega, c2, c3, c4, c5⟩
    · cases h
      exact ⟨Nat.le_refl _, h1, h2, h3, h4⟩
theorem ps_head_ok {K : Nat → Int32} {V : Nat → Int64} {fk : List Int64} {i : Nat} {w : List (Int64 × Nat) × Nat} (h : ps_head K V fk i = .ok w) : K i = 2 ∧ i + 2 ≤ w.2 ∧ w.2 ≤ 1500 ∧ ¬K w.2 = 19 ∧ ps_ps w.1 ∧ w.1.length ≤ 4 ∧ ¬V i ∈ fk ∧ fk.length < 48 := by
  obtain ⟨i1, k1, k2⟩ := ps_b_ok h
  obtain ⟨i2, k3, k4⟩ := ps_b_ok k2
  obtain ⟨k1, kn, km⟩ := ps_new_ok k1
  obtain ⟨a1, a2, rfl, a4⟩ := ps_take_ok k1
  obtain ⟨b1, b2, rfl, b4⟩ := ps_take_ok k3
  have kn := of_decide_eq_false kn
  have km := of_decide_eq_false km
  split at k4
  · cases k4
    exact ⟨a1, Nat.le_refl _, b2, b4, trivial, Nat.zero_le _, kn, by omega⟩
  · obtain ⟨q, k5, k6⟩ := ps_b_ok k4
    obtain ⟨c1, c2, rfl, c4, -⟩ := ps_par_ok k5
    obtain ⟨d1, d2, d3, d4, d5⟩ := ps_pars_ok _ _ _ _ k6 c2 c4 ⟨rfl, trivial⟩ (show 1 ≤ 4 by decide)
    have d1 : i + 1 + 1 + 1 ≤ w.2 := d1
    exact ⟨a1, by omega, d2, d3, d4, d5, kn, by omega⟩
/-- of a function that was read from i to j -/
def ps_fg (K : Nat → Int32) (V : Nat → Int64) (i j : Nat) (q : ps_F) : Prop := i + 6 ≤ j ∧ j ≤ 1500 ∧ ¬K j = 19 ∧ q.2.1 ≤ 4 ∧ q.2.1 ≤ q.2.2.2.2.2 ∧ q.2.2.2.2.2 ≤ 16 ∧ 1 ≤ q.2.2.2.2.1 ∧ q.2.2.2.2.1 + i ≤ j ∧ tr_fit 96 q.2.2.1 ∧ (∀ o, o ∈ q.2.2.2.1 → i ≤ o.1 ∧ o.1 < j) ∧ q.2.2.2.1.Pairwise (fun a b => a.1 < b.1)
theorem ps_fun_ok {K : Nat → Int32} {V : Nat → Int64} {fk : List Int64} {i : Nat} {q : ps_F × Nat} (h : ps_fun K V fk i = .ok q) : ps_fg K V i q.2 q.1 ∧ q.1.1 = V i ∧ K i = 2 ∧ ¬V i ∈ fk ∧ fk.length < 48 := by
  obtain ⟨w, k1, k2⟩ := ps_b_ok h
  obtain ⟨a1, a2, a3, a4, a5, a6, a7, a8⟩ := ps_head_ok k1
  obtain ⟨i4, k3, k4⟩ := ps_b_ok k2
  obtain ⟨i5, k5, k6⟩ := ps_b_ok k4
  obtain ⟨r, k7, k8⟩ := ps_b_ok k6
  obtain ⟨i6, k9, k10⟩ := ps_b_ok k8
  obtain ⟨-, b2, rfl, -⟩ := ps_take_ok k3
  obtain ⟨-, c2, rfl, -⟩ := ps_take_ok k5
  obtain ⟨d1, d2, d3, d4, d5, d6, d7, d8, d9, d10⟩ := ps_ex_good _ _ _ _ _ k7
  obtain ⟨-, e2, rfl, e4⟩ := ps_take_ok k9
  cases k10
  exact ⟨⟨by show i + 6 ≤ r.2.2.2.1 + 1; omega, e2, e4, a6, d3, d4 (by omega), d5, by show r.2.2.1 + i ≤ r.2.2.2.1 + 1; omega, d8, ps_in d9 (by omega) (Nat.le_succ _), d10⟩, rfl, a1, a7, a8⟩
end
/-! part 69 -/
section
/-! Params and functions of the class's reader. -/
def rf_W (b a _k : Nat) : Prop := a = 47 ∨ a = 49 ∨ a = 51 ∨ a = 53 ∨ (b ≤ a ∧ a < b + 18)
def rd_P (b : Nat) (fs : List ps_F) (c : Nat) (S : wd_S) : Prop := S.1 b 3 = Int32.ofNat fs.length ∧ fs.length ≤ 48 ∧ S.1 (b + 1) 6 = Int32.ofNat c ∧ (∀ j, (hj : j < fs.length) → S.2.1 49 j = fs[j].1 ∧ S.1 (b + 17) j = Int32.ofNat fs[j].2.1 ∧ ∃ y, S.1 (b + 15) j = Int32.ofNat y ∧ nd_t (b + 1) S 0 c 96 y fs[j].2.2.1 ∧ S.1 (b + 1 + 10) y = Int32.ofNat fs[j].2.2.2.2.1 ∧ S.1 (b + 1 + 12) y = Int32.ofNat (fs[j].2.2.2.2.2 - fs[j].2.1)) ∧ nd_c (b + 1) S c 0 = ps_cl (fs.flatMap (fun q => q.2.2.2.1))
section Rd8
variable {K : Nat → Int32} {V : Nat → Int64} {b : Nat} {S0 : wd_S} {i m : Nat} {sc : List (Int64 × Nat)} {ms : Int32} {S S' S1 : wd_S} {e : ps_E} {s : Nat} {k : Int32} {n c d : Nat} {a z u v : Int32} {self : ps_P} {x : Int64} {fs : List ps_F}
theorem rd_X_o (hX : rd_X K V b S) (ho : of_f (rf_W b) S S') : rd_X K V b S' := by
  obtain ⟨hb, h1, h2, h3, h4⟩ := hX
  have e1 : S'.1 4 5 = S.1 4 5 := ho.1 4 5 (by unfold rf_W; omega)
  have e2 : S'.1 6 = S.1 6 := funext (fun m => ho.1 6 m (by unfold rf_W; omega))
  have e3 : S'.2.1 10 = S.2.1 10 := funext (fun m => ho.2.1 10 m (by unfold rf_W; omega))
  refine ⟨hb, ?_, ?_, fun i hi => ?_, fun i hi hk => ?_⟩
  · rw [ho.2.2]; exact h1
  · rw [ho.2.2]; exact h2
  · rw [e1, fr_at 5 _ e2]; exact h3 i hi
  · rw [fr_lat 9 _ e3]; exact h4 i hi hk
theorem rf_of (h : of_f (rd_W b) S S') : of_f (rf_W b) S S' := of_mono (fun a k q => by unfold rd_W at q; unfold rf_W; omega) h
theorem rd_rb (h : rd_h K b S0 i m sc ms S) : rd_h K b S i m sc ms S := ⟨of_refl, h.2⟩
theorem rd_bb (h : rd_bd b S0 e s S) : rd_bd b S e s S := ⟨of_refl, h.2⟩
theorem rd_P_o (h1 : ∀ a, b ≤ a → a < b + 18 → S'.1 a = S.1 a) (h2 : ∀ j, j < fs.length → S'.2.1 49 j = S.2.1 49 j) (h : rd_P b fs c S) : rd_P b fs c S' := by
  obtain ⟨p1, p2, p3, p4, p5⟩ := h
  have hg : ∀ p : Nat → Prop, nd_g (b + 1) p S S' := fun p => nd_rows (fun a y1 y2 => h1 a (by omega) (by omega))
  refine ⟨?_, p2, ?_, fun j hj => ?_, ?_⟩
  · rw [h1 b (by omega) (by omega)]; exact p1
  · rw [h1 (b + 1) (by omega) (by omega)]; exact p3
  · obtain ⟨q1, q2, y, q3, q4, q5, q6⟩ := p4 j hj
    rw [h2 j hj, h1 (b + 17) (by omega) (by omega), h1 (b + 15) (by omega) (by omega), h1 (b + 1 + 10) (by omega) (by omega), h1 (b + 1 + 12) (by omega) (by omega)]
    exact ⟨q1, q2, y, q3, nd_t_g (hg _) _ _ _ q4, q5, q6⟩
  · rw [nd_c_g _ _ (hg _)]; exact p5
theorem ps_new_ne {x y x' : Bool} (hk : ¬K i = 2) : ps_new K x y i = ps_new K x' y i := by
  unfold ps_new
  rw [if_neg (fun q => hk q.1), if_neg (fun q => hk q.1), if_neg (fun q => hk q.1)]
/-- a param -/
theorem rd_enterP (h : rd_h K b S0 i m sc ms S) {x : Int64} (hl : sc.length = m) (hm : m < 16) : ∃ S', fn_Reader_enter x (Int32.ofNat m) S = some S' ∧ rd_h K b S0 i (m + 1) ((x, m) :: sc) ms (wd_i S' 47 8 (S'.1 47 8 + 1)) ∧ (∀ a, a ≠ 47 → a ≠ 53 → S'.1 a = S.1 a) ∧ (∀ a, a ≠ 51 → S'.2.1 a = S.2.1 a) := by
  obtain ⟨a1, a2, a3, a4, a5, a6, a7, a8, a9, a10, a11, a12⟩ := h
  rw [fo_enter, a9, lo_pn (L := 16) rfl (by omega), ro_pn (L := 16) rfl (by omega), im_s]
  refine ⟨_, rfl, ⟨of_i (Or.inl rfl) (of_i (Or.inl rfl) (of_i (by unfold rd_W; omega) (of_l (by unfold rd_W; omega) a1))), a2, a3, ?_, ?_, ?_, ?_, by omega, ?_, by show sc.length + 1 ≤ m + 1; omega, ⟨?_, ?_, hm, ?_⟩, ?_⟩, fun a h1 h2 => ?_, fun a h1 => ?_⟩
  · rw [fr_ne (by omega), fr_ne (by omega), fr_ne (by omega)]; exact a4
  · rw [fr_ne (by omega), fr_ne (by omega), fr_ne (by omega)]; exact a5
  · rw [fr_ne (by omega), fr_ne (by omega), fr_ne (by omega)]; exact a6
  · rw [fr_eq, fr_ne (by omega), fr_ne (by omega)]
    show S.1 47 8 + 1 = _
    rw [a7, im_s]
  · rw [fr_ne (by omega), fr_eq]
    rfl
  · show (wd_l S 51 sc.length x).2.1 51 sc.length = x
    rw [fr_l1, if_pos ⟨rfl, rfl⟩]
  · rw [fr_ne (by omega), fr_ne (by omega), fr_e (by omega)]
  · refine rd_sc_o (S := S) sc (fun m hm => ⟨?_, ?_⟩) a11
    · show (wd_l S 51 sc.length x).2.1 51 m = _
      rw [fr_l1, if_neg (by omega)]
    · rw [fr_ne (by omega), fr_ne (by omega), fr_ne (by omega)]
      rfl
  · rw [fr_ne (by omega), fr_ne (by omega), fr_ne (by omega)]; exact a12
  · rw [fr_row _ h1, fr_row _ h2]
    rfl
  · funext m'
    show (wd_l S 51 sc.length x).2.1 a m' = _
    rw [fr_l1, if_neg (fun q => h1 q.1)]
theorem rd_p47_b {p q : Int32} (h : rd_bd b S0 e s S) : ∃ S', fn_Reader_takeParam_47 p q S = some S' ∧ rd_bd b S0 e (s + 1) S' := by
  unfold fn_Reader_takeParam_47
  rw [fo_newName, wd_c_s]
  obtain ⟨S2, e2, h2⟩ := rd_bd_enter (x := lo_at 9 (S.1 47 3) S) (v := (fo_nn p q S).1 47 8) (rd_bd_nn (p := p) (q := q) h)
  rw [e2, wd_d_s]
  exact ⟨_, rfl, rd_bd_i (by decide) h2⟩
theorem rd_par_b (h : rd_bd b S0 e s S) (hs : s ≤ 1000) : ∃ S', fn_Reader_takeParam S = some S' ∧ rd_bd b S0 e (s + 1) S' := by
  obtain ⟨w, w1, -⟩ := fo_lastOf (r := 50) (x := lo_at 9 (S.1 47 3) S) (S := S) s wd_F (by omega) (by rw [show wd_F = 1000000 from rfl]; omega)
  have w1 : fn_LongRow_lastOf 50 (lo_at 9 (S.1 47 3) S) (Int32.ofNat s) S = some (w, S) := w1
  unfold fn_Reader_takeParam fn_Reader_takeParam_31
  rw [fo_value, wd_c_s, h.2.1, w1, wd_c_s]
  split
  · split
    · exact rd_p47_b h
    · exact rd_p47_b h
  · split
    · exact rd_p47_b h
    · exact rd_p47_b h
def rd_Q (K : Nat → Int32) (b : Nat) (S0 : wd_S) (ms : Int32) (S : wd_S) (r : Except ps_E (List (Int64 × Nat) × Nat)) (S' : wd_S) : Prop := match r with
  | .error e => ∃ s, s ≤ 20 ∧ rd_bd b S0 e s S'
  | .ok q => rd_h K b S0 q.2 q.1.length q.1 ms S' ∧ (∀ a, a ≠ 47 → a ≠ 53 → S'.1 a = S.1 a) ∧ (∀ a, a ≠ 51 → S'.2.1 a = S.2.1 a)
theorem rd_param (hX : rd_X K V b S0) (h : rd_h K b S0 i m sc ms S) (hl : sc.length = m) (hm : m ≤ 4) : ∃ S', fn_Reader_takeParam S = some S' ∧ rd_Q K b S0 ms S (ps_par K V sc i) S' := by
  have hi := h.2.1
  obtain ⟨w, w1, w2⟩ := rd_look (S := S) (x := lo_at 9 (Int32.ofNat i) S) sc wd_F (by omega) (by rw [show wd_F = 1000000 from rfl]; omega) h.2.2.2.2.2.2.2.2.2.2.1
  have w1 : fn_LongRow_lastOf 50 (lo_at 9 (Int32.ofNat i) S) (Int32.ofNat sc.length) S = some (w, S) := w1
  obtain ⟨p, q, hp, hq, hc⟩ : ∃ p q : Int32, (p = 0 ↔ (ps_look (lo_at 9 (Int32.ofNat i) S) sc).isSome = false) ∧ (q = 0 ↔ decide (4 ≤ sc.length) = false) ∧ fn_Reader_takeParam S = fn_Reader_takeParam_47 p q S := by
    have hq : ∃ q : Int32, (q = 0 ↔ decide (4 ≤ sc.length) = false) ∧ ∀ p, fn_Reader_takeParam_31 p S = fn_Reader_takeParam_47 p q S := by
      unfold fn_Reader_takeParam_31
      rw [h.2.2.2.2.2.2.1]
      by_cases hm4 : m < 4
      · exact ⟨0, ⟨fun _ => decide_eq_false (by omega), fun _ => rfl⟩, fun p => if_pos ((mo_lt (m := 4) (b := 4) (by omega) (by omega) rfl).mpr hm4)⟩
      · exact ⟨1, ⟨fun q => absurd q (by decide), fun q => absurd (of_decide_eq_false q) (by omega)⟩, fun p => if_neg (fun q => hm4 ((mo_lt (m := 4) (b := 4) (by omega) (by omega) rfl).mp q))⟩
    obtain ⟨q, hq, hq2⟩ := hq
    unfold fn_Reader_takeParam
    rw [fo_value, wd_c_s, h.2.2.2.1, h.2.2.2.2.2.2.2.2.1, w1, wd_c_s, hq2, hq2]
    rcases w2 with ⟨p1, rfl⟩ | ⟨u, j, p1, rfl, hj, -⟩
    · rw [p1]
      exact ⟨0, q, ⟨fun _ => rfl, fun _ => rfl⟩, hq, if_pos rfl⟩
    · rw [p1]
      refine ⟨1, q, ⟨fun z => absurd z (by decide), fun z => by cases z⟩, hq, if_neg (fun z => ?_)⟩
      have := congrArg Int32.toInt z
      rw [im_i (by omega)] at this
      exact absurd this (by show ¬(j : Int) = -1; omega)
  have en : ps_new K (ps_look (lo_at 9 (Int32.ofNat i) S) sc).isSome (decide (4 ≤ sc.length)) i = ps_new K (ps_look (V i) sc).isSome (decide (4 ≤ sc.length)) i := by
    by_cases hk : K i = 2
    · rw [rd_val hX h.1 hi (Or.inr hk)]
    · exact ps_new_ne hk
  rw [hc]
  unfold fn_Reader_takeParam_47 ps_par
  rw [fo_newName, wd_c_s, ← en]
  obtain ⟨f1, f2⟩ := rd_nn_out (p := p) (q := q) (S := S)
  cases q1 : ps_new K (ps_look (lo_at 9 (Int32.ofNat i) S) sc).isSome (decide (4 ≤ sc.length)) i with
  | error e =>
    have h1 := rd_nn_er hX h hp hq q1
    obtain ⟨S2, e2, h2⟩ := rd_bd_enter (x := lo_at 9 (S.1 47 3) S) (v := (fo_nn p q S).1 47 8) h1
    rw [e2, wd_d_s]
    exact ⟨_, rfl, sc.length + 1, by omega, rd_bd_i (by decide) h2⟩
  | ok j =>
    have h1 := rd_nn_ok hX h hp hq q1
    obtain ⟨q2, -, qm⟩ := ps_new_ok q1
    have qm := of_decide_eq_false qm
    obtain ⟨t1, t2, rfl, t4⟩ := ps_take_ok q2
    rw [h1.2.2.2.2.2.2.1, h.2.2.2.1, rd_val hX h.1 hi (Or.inr t1)]
    obtain ⟨S2, e2, h2, f3, f4⟩ := rd_enterP (x := V i) h1 hl (by omega)
    rw [e2, wd_d_s]
    refine ⟨_, rfl, ?_, fun a y1 y2 => ?_, fun a y1 => ?_⟩
    · show rd_h K b S0 (i + 1) (sc.length + 1) ((V i, sc.length) :: sc) ms _
      rw [hl]
      exact h2
    · show (wd_i S2 47 8 _).1 a = _
      rw [fr_row _ y1, f3 a y1 y2, f1 a y1]
    · show S2.2.1 a = _
      rw [f4 a y1, f2]
theorem rd_92_b {f : Nat} {l : Int32} (h : rd_bd b S0 e s S) : fn_Reader_takeFunction_92 (f + 1) l S = fn_Reader_takeFunction_124 S := by
  rw [fn_Reader_takeFunction_92]
  split
  · rw [if_neg (rd_bd_ne h (by decide) (by decide))]
  · rfl
theorem rd_pars (hX : rd_X K V b S0) : ∀ (f F i : Nat) (sc : List (Int64 × Nat)) (l : Nat) (S : wd_S), l + f = 1500 → f < F → rd_h K b S0 i sc.length sc ms S → sc.length ≤ 4 → ∃ S', fn_Reader_takeFunction_92 F (Int32.ofNat l) S = fn_Reader_takeFunction_124 S' ∧ rd_Q K b S0 ms S (ps_pars K V f sc i) S' := by
  intro f
  induction f with
  | zero =>
    intro F i sc l S hl hF h h4
    obtain ⟨F, rfl⟩ : ∃ g, F = g + 1 := ⟨F - 1, by omega⟩
    rw [fn_Reader_takeFunction_92, if_neg (fun q => by have := (mo_lt (m := 1500) (b := 1500) (by omega) (by omega) rfl).mp q; omega)]
    exact ⟨S, rfl, h, fun _ _ _ => rfl, fun _ _ => rfl⟩
  | succ f ih =>
    intro F i sc l S hl hF h h4
    obtain ⟨F, rfl⟩ : ∃ g, F = g + 1 := ⟨F - 1, by omega⟩
    rw [fn_Reader_takeFunction_92, if_pos ((mo_lt (m := 1500) (b := 1500) (by omega) (by omega) rfl).mpr (by omega)), h.2.2.2.2.1]
    unfold ps_pars
    by_cases hk : K i = 17
    · rw [if_pos hk, if_pos hk, fo_takeKind, wd_d_s]
      obtain ⟨f1, -, f2⟩ := rd_tk_out (k := 17) (S := S)
      cases q1 : ps_take K 17 i with
      | error e =>
        have h1 := rd_tk_er hX h q1
        obtain ⟨S2, e2, h2⟩ := rd_par_b h1 (by omega)
        obtain ⟨F, rfl⟩ : ∃ g, F = g + 1 := ⟨F - 1, by omega⟩
        rw [e2, wd_d_s, rd_92_b h2]
        exact ⟨S2, rfl, sc.length + 1, by omega, h2⟩
      | ok i1 =>
        obtain ⟨t1, t2, rfl, t4⟩ := ps_take_ok q1
        have h1 := rd_tk_ok hX h q1
        obtain ⟨S2, e2, r2⟩ := rd_param hX h1 rfl h4
        rw [e2, wd_d_s, im_s]
        show ∃ S', _ ∧ rd_Q K b S0 ms S (ps_b (ps_par K V sc (i + 1)) _) S'
        cases q2 : ps_par K V sc (i + 1) with
        | error e =>
          rw [q2] at r2
          obtain ⟨s, hs, r2⟩ := r2
          obtain ⟨F, rfl⟩ : ∃ g, F = g + 1 := ⟨F - 1, by omega⟩
          rw [rd_92_b r2]
          exact ⟨S2, rfl, s, hs, r2⟩
        | ok q =>
          rw [q2] at r2
          obtain ⟨h2, g1, g2⟩ := r2
          obtain ⟨p1, p2, rfl, p4, p5, p6⟩ := ps_par_ok q2
          obtain ⟨S3, e3, r3⟩ := ih F (i + 1 + 1) ((V (i + 1), sc.length) :: sc) (l + 1) S2 (by omega) (by omega) h2 (by show sc.length + 1 ≤ 4; omega)
          refine ⟨S3, e3, ?_⟩
          show rd_Q K b S0 ms S (ps_pars K V f ((V (i + 1), sc.length) :: sc) (i + 1 + 1)) S3
          cases q3 : ps_pars K V f ((V (i + 1), sc.length) :: sc) (i + 1 + 1) with
          | error e =>
            rw [q3] at r3
            exact r3
          | ok w =>
            rw [q3] at r3
            obtain ⟨h3, g3, g4⟩ := r3
            exact ⟨h3, fun a y1 y2 => by rw [g3 a y1 y2, g1 a y1 y2, f1 a y1], fun a y1 => by rw [g4 a y1, g2 a y1, f2]⟩
    · rw [if_neg hk, if_neg hk]
      exact ⟨S, rfl, h, fun _ _ _ => rfl, fun _ _ => rfl⟩
end Rd8
end
