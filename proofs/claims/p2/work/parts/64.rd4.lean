/-! An E that becomes a part; if, let, signs. -/
section Rd4
variable {K : Nat → Int32} {V : Nat → Int64} {b : Nat} {S0 : wd_S} {i m : Nat} {sc : List (Int64 × Nat)} {ms : Int32} {S S' S1 : wd_S} {e : ps_E} {s : Nat} {k : Int32} {n c d : Nat} {a z : Int32} {self : ps_P}
/-- what an E as a further part of node y comes to -/
def rd_A (K : Nat → Int32) (b : Nat) (S0 : wd_S) (m : Nat) (sc : List (Int64 × Nat)) (ms : Int32) (c d y : Nat) (k v : Int32) (zs : List Nat) (sz lt : Nat) (S : wd_S) (r : Except ps_E ps_O) (S' : wd_S) : Prop := match r with
  | .error e => rd_bd b S0 e sc.length S'
  | .ok q => rd_h K b S0 q.2.2.2.1 q.2.2.2.2 sc (rd_ms ms q.2.1) S' ∧ S'.1 (b + 1) 6 = Int32.ofNat (c + q.2.2.1) ∧ nd_g (b + 1) (fun x => x < c ∧ x ≠ y) S S' ∧ ∃ z, nd_o (b + 1) S' y k v (zs ++ [z]) (sz + q.2.2.1) (lt + (q.2.2.2.2 - m)) ∧ nd_t (b + 1) S' c (c + q.2.2.1) d z q.1 ∧ nd_c (b + 1) S' q.2.2.1 c = ps_cl q.2.1
theorem rd_ea (hX : rd_X K V b S0) (hs : rd_C K b S0 sc d (self sc) (fun S => rc_Reader_takeE n 43 a 0 S)) (hgd : ∀ q, self sc i m = .ok q → ps_good K d i m q) {y : Nat} {k v : Int32} {zs : List Nat} {sz lt : Nat} (h : rd_h K b S0 i m sc ms S) (hc : S.1 (b + 1) 6 = Int32.ofNat c) (hci : c ≤ i) (hy : y < c) (ho : nd_o (b + 1) S y k v zs sz lt) (hz : zs.length < 100000) : ∃ S2, (∀ f : wd_S → Option (Int32 × wd_S), wd_c (rc_Reader_takeE n 43 a 0 S) (fun x S1 => wd_d (fn_Trees_append (b + 1) (Int32.ofNat y) x S1) f) = f S2) ∧ rd_A K b S0 m sc ms c d y k v zs sz lt S (self sc i m) S2 := by
  obtain ⟨x, S1, e1, hr⟩ := hs i m ms c S h hc hci
  have e1 : rc_Reader_takeE n 43 a 0 S = some (x, S1) := e1
  refine ⟨fo_ap (b + 1) (Int32.ofNat y) x S1, fun f => by rw [e1, wd_c_s, fo_append, wd_d_s], ?_⟩
  cases eq : self sc i m with
  | error e =>
    rw [eq] at hr
    exact rd_ap_b hX.1 hr
  | ok q =>
    rw [eq] at hr
    obtain ⟨g1, g2, g3, g4, g5, g6, g7, -⟩ := hgd q eq
    obtain ⟨h1, h2, h3, z, rfl, h5, h6, h7, h8⟩ := hr
    obtain ⟨z1, z2⟩ := nd_t_b h5
    obtain ⟨p1, p2⟩ := nd_ap (z := z) (rd_L hX) (show y < 1500 by omega) (show z < 1500 by omega) (by omega) hz (nd_o_g hy h3 ho) h6 h7
    refine ⟨rd_ap_h hX.1 h1, ?_, nd_trans (nd_mono (fun x hx => hx.1) h3) (nd_mono (fun x hx => hx.2) p1), z, p2, nd_t_g (nd_mono (fun x hx => by omega) p1) _ _ _ h5, ?_⟩
    · rw [(nd_ap_out (b + 1) (Int32.ofNat y) (Int32.ofNat z) S1).1 (b + 1) (by omega)]
      exact h2
    · rw [nd_c_g _ _ (nd_mono (fun x hx => by omega) p1)]
      exact h8
theorem rd_ba (hX : rd_X K V b S0) (hn : 5 ≤ n) (h : rd_bd b S0 e s S) {y : Int32} : ∃ S2, (∀ f : wd_S → Option (Int32 × wd_S), wd_c (rc_Reader_takeE n 43 a 0 S) (fun x S1 => wd_d (fn_Trees_append (b + 1) y x S1) f) = f S2) ∧ rd_bd b S0 e s S2 := by
  obtain ⟨n, rfl⟩ : ∃ z, n = z + 5 := ⟨n - 5, by omega⟩
  refine ⟨fo_ap (b + 1) y 0 (fo_rf S), fun f => by rw [rd_b43 h, wd_c_s, fo_append, wd_d_s], rd_ap_b hX.1 (rd_bd_rf h).1⟩
/-- if, from its last E back to its beginning -/
noncomputable def rd_i3 (n : Nat) (p1 x3 : Int32) (S22 : wd_S) : Option (Int32 × wd_S) :=
  wd_d (fn_Reader_takeKind (12 : Int32) S22) fun S25 => if tp_t (S25.2.2.1 47 2) = (0, 8) then wd_c (rc_Reader_takeE n 43 (p1 + (1 : Int32)) 0 S25) fun x30 S29 => wd_d (fn_Trees_append (S25.2.2.1 47 2) x3 x30 S29) fun S32 => some (x3, S32) else none
noncomputable def rd_i2 (n : Nat) (p1 x3 : Int32) (S12 : wd_S) : Option (Int32 × wd_S) :=
  wd_d (fn_Reader_takeKind (11 : Int32) S12) fun S15 => if tp_t (S15.2.2.1 47 2) = (0, 8) then wd_c (rc_Reader_takeE n 43 (p1 + (1 : Int32)) 0 S15) fun x20 S19 => wd_d (fn_Trees_append (S15.2.2.1 47 2) x3 x20 S19) fun S22 => rd_i3 n p1 x3 S22 else none
noncomputable def rd_i1 (n : Nat) (p1 x3 : Int32) (S2 : wd_S) : Option (Int32 × wd_S) :=
  wd_d (fn_Reader_takeKind (4 : Int32) S2) fun S5 => if tp_t (S5.2.2.1 47 2) = (0, 8) then wd_c (rc_Reader_takeE n 43 (p1 + (1 : Int32)) 0 S5) fun x10 S9 => wd_d (fn_Trees_append (S5.2.2.1 47 2) x3 x10 S9) fun S12 => rd_i2 n p1 x3 S12 else none
theorem rd_if_eq (hX : rd_X K V b S0) (ho : of_f (rd_W b) S0 S) : fn_Reader_takeIf (rc_Reader_takeE n) a S = rd_i1 n a (S.1 (b + 1) 6) (fo_op (b + 1) 4 0 S) := by
  unfold fn_Reader_takeIf
  rw [rd_r2 hX ho, if_pos (rd_t2 hX), fo_open, wd_c_s]
  rfl
theorem rd_i3_b (hX : rd_X K V b S0) (hn : 5 ≤ n) (h : rd_bd b S0 e s S) : ∃ S', rd_i3 n a z S = some (z, S') ∧ rd_bd b S0 e s S' := by
  unfold rd_i3
  have h1 := rd_bd_tk (k := 12) h (by decide) (by decide)
  rw [fo_takeKind, wd_d_s, rd_r2 hX h1.1, if_pos (rd_t2 hX)]
  obtain ⟨S2, e2, h2⟩ := rd_ba (a := a + 1) (y := z) hX hn h1
  rw [e2]
  exact ⟨_, rfl, h2⟩
theorem rd_i2_b (hX : rd_X K V b S0) (hn : 5 ≤ n) (h : rd_bd b S0 e s S) : ∃ S', rd_i2 n a z S = some (z, S') ∧ rd_bd b S0 e s S' := by
  unfold rd_i2
  have h1 := rd_bd_tk (k := 11) h (by decide) (by decide)
  rw [fo_takeKind, wd_d_s, rd_r2 hX h1.1, if_pos (rd_t2 hX)]
  obtain ⟨S2, e2, h2⟩ := rd_ba (a := a + 1) (y := z) hX hn h1
  rw [e2]
  exact rd_i3_b hX hn h2
theorem rd_i1_b (hX : rd_X K V b S0) (hn : 5 ≤ n) (h : rd_bd b S0 e s S) : ∃ S', rd_i1 n a z S = some (z, S') ∧ rd_bd b S0 e s S' := by
  unfold rd_i1
  have h1 := rd_bd_tk (k := 4) h (by decide) (by decide)
  rw [fo_takeKind, wd_d_s, rd_r2 hX h1.1, if_pos (rd_t2 hX)]
  obtain ⟨S2, e2, h2⟩ := rd_ba (a := a + 1) (y := z) hX hn h1
  rw [e2]
  exact rd_i2_b hX hn h2
theorem rd_cl2 (M N : List (Nat × Nat)) {t c k l : Nat} (h1 : nd_c t S k c = ps_cl M) (h2 : nd_c t S l (c + k) = ps_cl N) : nd_c t S (k + l) c = ps_cl (M ++ N) := by
  rw [nd_c_a, h1, h2, ps_cl_a]
theorem rd_if (hX : rd_X K V b S0) (hn : 5 ≤ n) (hs : rd_C K b S0 sc d (self sc) (fun S => rc_Reader_takeE n 43 (a + 1) 0 S)) (hgd : ∀ i m q, self sc i m = .ok q → ps_good K d i m q) : rd_C K b S0 sc (d + 1) (ps_if K self sc) (fun S => fn_Reader_takeIf (rc_Reader_takeE n) a S) := by
  intro i m ms c S h hc hci
  show ∃ x S', fn_Reader_takeIf (rc_Reader_takeE n) a S = some (x, S') ∧ _
  rw [rd_if_eq hX h.1, hc]
  unfold ps_if rd_i1
  rw [fo_takeKind, wd_d_s]
  have h1 : rd_h K b S0 i m sc ms (fo_op (b + 1) 4 0 S) := rd_op_h hX.1 h
  cases q1 : ps_take K 4 i with
  | error e =>
    have hb := rd_tk_er hX h1 q1
    rw [rd_r2 hX hb.1, if_pos (rd_t2 hX)]
    obtain ⟨S2, e2, h2⟩ := rd_ba (a := a + 1) (y := Int32.ofNat c) hX hn hb
    rw [e2]
    obtain ⟨S3, e3, h3⟩ := rd_i2_b (a := a) (z := Int32.ofNat c) hX hn h2
    exact ⟨_, _, e3, h3⟩
  | ok i1 =>
    obtain ⟨t1, t2, rfl, t4⟩ := ps_take_ok q1
    have h2 := rd_tk_ok hX h1 q1
    obtain ⟨o1, o2, o3⟩ := nd_op (k := 4) (v := 0) (rd_L hX) hc (show c < 1500 by omega)
    have o3 := nd_o_g (p := fun _ => True) trivial (rd_tk_nd (k := 4) hX.1) o3
    have o2 := nd_trans o2 (rd_tk_nd (k := 4) hX.1)
    rw [rd_r2 hX h2.1, if_pos (rd_t2 hX)]
    obtain ⟨S2, e2, a2⟩ := rd_ea hX hs (hgd _ _) h2 (by rw [rd_tk_c hX.1]; exact o1) (by omega) (Nat.lt_succ_self c) o3 (by decide)
    rw [e2]
    show ∃ x S', rd_i2 n a (Int32.ofNat c) S2 = some (x, S') ∧ rd_R K b S0 m sc ms c (d + 1) S (ps_b (self sc (i + 1) m) _) x S'
    cases q2 : self sc (i + 1) m with
    | error e =>
      rw [q2] at a2
      obtain ⟨S3, e3, h3⟩ := rd_i2_b (a := a) (z := Int32.ofNat c) hX hn a2
      exact ⟨_, _, e3, h3⟩
    | ok q =>
      rw [q2] at a2
      obtain ⟨g1, g2, g3, g4, g5, g6, g7, -⟩ := hgd _ _ q q2
      obtain ⟨h3, c3, n3, z1, w1, u1, l1⟩ := a2
      show ∃ x S', rd_i2 n a (Int32.ofNat c) S2 = some (x, S') ∧ rd_R K b S0 m sc ms c (d + 1) S (ps_b (ps_take K 11 q.2.2.2.1) _) x S'
      unfold rd_i2
      rw [fo_takeKind, wd_d_s]
      cases q3 : ps_take K 11 q.2.2.2.1 with
      | error e =>
        have hb := rd_tk_er hX h3 q3
        rw [rd_r2 hX hb.1, if_pos (rd_t2 hX)]
        obtain ⟨S4, e4, h4⟩ := rd_ba (a := a + 1) (y := Int32.ofNat c) hX hn hb
        rw [e4]
        obtain ⟨S5, e5, h5⟩ := rd_i3_b (a := a) (z := Int32.ofNat c) hX hn h4
        exact ⟨_, _, e5, h5⟩
      | ok i2 =>
        obtain ⟨-, t5, rfl, t6⟩ := ps_take_ok q3
        have h4 := rd_tk_ok hX h3 q3
        have n4 := nd_trans n3 (rd_tk_nd (k := 11) hX.1)
        have w1 := nd_o_g (p := fun _ => True) trivial (rd_tk_nd (k := 11) hX.1) w1
        have u1 := nd_t_g (rd_tk_nd (k := 11) hX.1) _ _ _ u1
        have l1 := (nd_c_g _ _ (rd_tk_nd (k := 11) hX.1)).trans l1
        rw [rd_r2 hX h4.1, if_pos (rd_t2 hX)]
        obtain ⟨S4, e4, a4⟩ := rd_ea hX hs (hgd _ _) h4 (by rw [rd_tk_c hX.1]; exact c3) (by omega) (by omega) w1 (show 1 < 100000 by decide)
        rw [e4]
        show ∃ x S', rd_i3 n a (Int32.ofNat c) S4 = some (x, S') ∧ rd_R K b S0 m sc ms c (d + 1) S (ps_b (self sc (q.2.2.2.1 + 1) q.2.2.2.2) _) x S'
        cases q4 : self sc (q.2.2.2.1 + 1) q.2.2.2.2 with
        | error e =>
          rw [q4] at a4
          obtain ⟨S5, e5, h5⟩ := rd_i3_b (a := a) (z := Int32.ofNat c) hX hn a4
          exact ⟨_, _, e5, h5⟩
        | ok r =>
          rw [q4] at a4
          obtain ⟨j1, j2, j3, j4, j5, j6, j7, -⟩ := hgd _ _ r q4
          obtain ⟨h5, c5, n5, z2, w2, u2, l2⟩ := a4
          show ∃ x S', rd_i3 n a (Int32.ofNat c) S4 = some (x, S') ∧ rd_R K b S0 m sc ms c (d + 1) S (ps_b (ps_take K 12 r.2.2.2.1) _) x S'
          unfold rd_i3
          rw [fo_takeKind, wd_d_s]
          cases q5 : ps_take K 12 r.2.2.2.1 with
          | error e =>
            have hb := rd_tk_er hX h5 q5
            rw [rd_r2 hX hb.1, if_pos (rd_t2 hX)]
            obtain ⟨S6, e6, h6⟩ := rd_ba (a := a + 1) (y := Int32.ofNat c) hX hn hb
            rw [e6]
            exact ⟨_, _, rfl, h6⟩
          | ok i3 =>
            obtain ⟨-, t7, rfl, t8⟩ := ps_take_ok q5
            have h6 := rd_tk_ok hX h5 q5
            have n6 := nd_trans n5 (rd_tk_nd (k := 12) hX.1)
            have w2 := nd_o_g (p := fun _ => True) trivial (rd_tk_nd (k := 12) hX.1) w2
            have u2 := nd_t_g (rd_tk_nd (k := 12) hX.1) _ _ _ u2
            have l2 := (nd_c_g _ _ (rd_tk_nd (k := 12) hX.1)).trans l2
            rw [rd_r2 hX h6.1, if_pos (rd_t2 hX)]
            obtain ⟨S6, e6, a6⟩ := rd_ea hX hs (hgd _ _) h6 (by rw [rd_tk_c hX.1]; exact c5) (by omega) (by omega) w2 (show 2 < 100000 by decide)
            rw [e6]
            refine ⟨_, _, rfl, ?_⟩
            show rd_R K b S0 m sc ms c (d + 1) S (ps_b (self sc (r.2.2.2.1 + 1) r.2.2.2.2) _) _ _
            cases q6 : self sc (r.2.2.2.1 + 1) r.2.2.2.2 with
            | error e =>
              rw [q6] at a6
              exact a6
            | ok v =>
              rw [q6] at a6
              obtain ⟨k1, k2, k3, k4, k5, k6, k7, -⟩ := hgd _ _ v q6
              obtain ⟨h7, c7, n7, z3, w3, u3, l3⟩ := a6
              obtain ⟨x1, x2⟩ := nd_t_b u1
              obtain ⟨x3, x4⟩ := nd_t_b u2
              obtain ⟨x5, x6⟩ := nd_t_b u3
              have u1 := nd_t_g (nd_mono (fun x hx => by omega) n7) _ _ _ (nd_t_g (nd_mono (fun x hx => by omega) n6) _ _ _ u1)
              have u2 := nd_t_g (nd_mono (fun x hx => by omega) n7) _ _ _ u2
              have l1 := (nd_c_g _ _ (nd_mono (fun x hx => by omega) n7)).trans ((nd_c_g _ _ (nd_mono (fun x hx => by omega) n6)).trans l1)
              have l2 := (nd_c_g _ _ (nd_mono (fun x hx => by omega) n7)).trans l2
              have hN : c + (1 + q.2.2.1 + r.2.2.1 + v.2.2.1) = c + 1 + q.2.2.1 + r.2.2.1 + v.2.2.1 := by omega
              refine ⟨?_, ?_, ?_, c, rfl, ?_, ?_, ?_, ?_⟩
              · show rd_h K b S0 v.2.2.2.1 v.2.2.2.2 sc (rd_ms ms (q.2.1 ++ (r.2.1 ++ v.2.1))) S6
                rw [rd_ms_a, rd_ms_a]
                exact h7
              · show S6.1 (b + 1) 6 = Int32.ofNat (c + (1 + q.2.2.1 + r.2.2.1 + v.2.2.1))
                rw [hN]
                exact c7
              · exact nd_trans (nd_mono (fun x hx => by omega) o2) (nd_trans (nd_mono (fun x hx => by omega) n4) (nd_trans (nd_mono (fun x hx => by omega) n6) (nd_mono (fun x hx => by omega) n7)))
              · show nd_t (b + 1) S6 c (c + (1 + q.2.2.1 + r.2.2.1 + v.2.2.1)) (d + 1) c (tr_3 4 0 0 q.1 r.1 v.1)
                refine nd_t_mk (zs := [z1, z2, z3]) (Nat.le_refl _) (by omega) w3 (fun j hj => ?_)
                have hj : j < 3 := hj
                match j, hj with
                | 0, _ => exact nd_t_r (by omega) (by omega) _ _ _ u1
                | 1, _ => exact nd_t_r (by omega) (by omega) _ _ _ u2
                | 2, _ => exact nd_t_r (by omega) (by omega) _ _ _ u3
              · rw [w3.2.2.2.1]
              · rw [w3.2.2.2.2.1]
                show Int32.ofNat (0 + (q.2.2.2.2 - m) + (r.2.2.2.2 - q.2.2.2.2) + (v.2.2.2.2 - r.2.2.2.2)) = Int32.ofNat (v.2.2.2.2 - m)
                congr 1
                omega
              · show nd_c (b + 1) S6 (1 + q.2.2.1 + r.2.2.1 + v.2.2.1) c = ps_cl (q.2.1 ++ (r.2.1 ++ v.2.1))
                rw [show 1 + q.2.2.1 + r.2.2.1 + v.2.2.1 = (q.2.2.1 + (r.2.2.1 + v.2.2.1)) + 1 by omega, nd_c_s, if_neg (by rw [w3.1]; decide)]
                exact rd_cl2 _ _ l1 (rd_cl2 _ _ l2 l3)
end Rd4
