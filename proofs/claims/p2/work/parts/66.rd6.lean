/-! Calls, atoms, any E. -/
section Rd6
variable {K : Nat → Int32} {V : Nat → Int64} {b : Nat} {S0 : wd_S} {i m : Nat} {sc : List (Int64 × Nat)} {ms : Int32} {S S' S1 : wd_S} {e : ps_E} {s : Nat} {k : Int32} {n c d : Nat} {a z u v : Int32} {self : ps_P} {x : Int64}
theorem rd_87_b (h : rd_bd b S0 e s S) : ∃ S', fn_Reader_takeCall_87 (rc_Reader_takeE n) z S = some (z, S') ∧ rd_bd b S0 e s S' := by
  unfold fn_Reader_takeCall_87
  rw [fo_takeKind, wd_d_s]
  exact ⟨_, rfl, rd_bd_tk h (by decide) (by decide)⟩
theorem rd_43_b {f : Nat} {l : Int32} (h : rd_bd b S0 e s S) : ∃ S', fn_Reader_takeCall_43 (rc_Reader_takeE n) (f + 1) a z l S = some (z, S') ∧ rd_bd b S0 e s S' := by
  rw [fn_Reader_takeCall_43]
  split
  · rw [if_neg (rd_bd_ne h (by decide) (by decide))]
    exact rd_87_b h
  · exact rd_87_b h
/-- further arguments and the bracket behind them -/
def ps_more (K : Nat → Int32) (self : ps_P) (sc : List (Int64 × Nat)) (f i m : Nat) : Except ps_E ((List tr_T × List (Nat × Nat) × Nat × Nat × Nat) × Nat) := ps_b (ps_args K self sc f i m) fun r => ps_b (ps_take K 16 r.2.2.2.1) fun i2 => .ok (r, i2)
def rd_Z (K : Nat → Int32) (b : Nat) (S0 : wd_S) (m : Nat) (sc : List (Int64 × Nat)) (ms : Int32) (c d y : Nat) (v : Int32) (zs : List Nat) (sz lt : Nat) (S : wd_S) (r : Except ps_E ((List tr_T × List (Nat × Nat) × Nat × Nat × Nat) × Nat)) (S' : wd_S) : Prop := match r with
  | .error e => rd_bd b S0 e sc.length S'
  | .ok w => rd_h K b S0 w.2 w.1.2.2.2.2 sc (rd_ms ms w.1.2.1) S' ∧ S'.1 (b + 1) 6 = Int32.ofNat (c + w.1.2.2.1) ∧ nd_g (b + 1) (fun x => x < c ∧ x ≠ y) S S' ∧ ∃ zs', nd_o (b + 1) S' y 5 v (zs ++ zs') (sz + w.1.2.2.1) (lt + (w.1.2.2.2.2 - m)) ∧ zs'.length = w.1.1.length ∧ (∀ j, (hj : j < zs'.length) → nd_t (b + 1) S' c (c + w.1.2.2.1) d zs'[j] (tr_ls w.1.1 j)) ∧ nd_c (b + 1) S' w.1.2.2.1 c = ps_cl w.1.2.1
theorem rd_Z0 (hX : rd_X K V b S0) {y : Nat} {zs : List Nat} {sz lt : Nat} (h : rd_h K b S0 i m sc ms S) (hc : S.1 (b + 1) 6 = Int32.ofNat c) (ho : nd_o (b + 1) S y 5 v zs sz lt) : ∃ S', fn_Reader_takeCall_87 (rc_Reader_takeE n) z S = some (z, S') ∧ rd_Z K b S0 m sc ms c d y v zs sz lt S (ps_b (.ok ([], [], 0, i, m)) fun r => ps_b (ps_take K 16 r.2.2.2.1) fun i2 => .ok (r, i2)) S' := by
  unfold fn_Reader_takeCall_87
  rw [fo_takeKind, wd_d_s]
  refine ⟨_, rfl, ?_⟩
  show rd_Z K b S0 m sc ms c d y v zs sz lt S (ps_b (ps_take K 16 i) _) _
  cases q : ps_take K 16 i with
  | error e => exact rd_tk_er hX h q
  | ok j =>
    refine ⟨rd_tk_ok hX h q, ?_, rd_tk_nd hX.1, [], ?_, rfl, fun j hj => absurd hj (Nat.not_lt_zero _), rfl⟩
    · rw [rd_tk_c hX.1]
      exact hc
    · show nd_o (b + 1) _ y 5 v (zs ++ []) (sz + 0) (lt + (m - m))
      rw [List.append_nil, Nat.add_zero, Nat.sub_self, Nat.add_zero]
      exact nd_o_g (p := fun _ => True) trivial (rd_tk_nd hX.1) ho
theorem rd_args (hX : rd_X K V b S0) (hn : 5 ≤ n) (hs : rd_C K b S0 sc d (self sc) (fun S => rc_Reader_takeE n 43 (a + 1) 0 S)) (hgd : ∀ sc i m q, self sc i m = .ok q → ps_good K d i m q) : ∀ (f F i m : Nat) (ms : Int32) (c y : Nat) (zs : List Nat) (sz lt l : Nat) (S : wd_S), l + f = 1500 → f < F → rd_h K b S0 i m sc ms S → S.1 (b + 1) 6 = Int32.ofNat c → c ≤ i → y < c → nd_o (b + 1) S y 5 v zs sz lt → zs.length = l + 1 → ∃ S', fn_Reader_takeCall_43 (rc_Reader_takeE n) F a (Int32.ofNat y) (Int32.ofNat l) S = some (Int32.ofNat y, S') ∧ rd_Z K b S0 m sc ms c d y v zs sz lt S (ps_more K self sc f i m) S' := by
  intro f
  induction f with
  | zero =>
    intro F i m ms c y zs sz lt l S hl hF h hc hci hy ho hz
    obtain ⟨F, rfl⟩ : ∃ g, F = g + 1 := ⟨F - 1, by omega⟩
    rw [fn_Reader_takeCall_43, if_neg (fun q => by have := (mo_lt (m := 1500) (b := 1500) (by omega) (by omega) rfl).mp q; omega)]
    exact rd_Z0 hX h hc ho
  | succ f ih =>
    intro F i m ms c y zs sz lt l S hl hF h hc hci hy ho hz
    obtain ⟨F, rfl⟩ : ∃ g, F = g + 1 := ⟨F - 1, by omega⟩
    rw [fn_Reader_takeCall_43, if_pos ((mo_lt (m := 1500) (b := 1500) (by omega) (by omega) rfl).mpr (by omega)), h.2.2.2.2.1]
    unfold ps_more ps_args
    by_cases hk : K i = 17
    · rw [if_pos hk, if_pos hk, fo_takeKind, wd_d_s]
      cases q1 : ps_take K 17 i with
      | error e =>
        have h1 := rd_tk_er hX h q1
        rw [rd_r2 hX h1.1, if_pos (rd_t2 hX)]
        obtain ⟨S2, e2, h2⟩ := rd_ba (a := a + 1) (y := Int32.ofNat y) hX hn h1
        rw [e2]
        obtain ⟨F, rfl⟩ : ∃ g, F = g + 1 := ⟨F - 1, by omega⟩
        exact rd_43_b h2
      | ok i1 =>
        obtain ⟨t1, t2, rfl, t4⟩ := ps_take_ok q1
        have h1 := rd_tk_ok hX h q1
        rw [rd_r2 hX h1.1, if_pos (rd_t2 hX)]
        obtain ⟨S2, e2, a2⟩ := rd_ea hX hs (hgd sc _ _) h1 (by rw [rd_tk_c hX.1]; exact hc) (by omega) hy (nd_o_g (p := fun _ => True) trivial (rd_tk_nd hX.1) ho) (by omega)
        rw [e2, im_s]
        show ∃ S', fn_Reader_takeCall_43 (rc_Reader_takeE n) F a (Int32.ofNat y) (Int32.ofNat (l + 1)) S2 = some (Int32.ofNat y, S') ∧ rd_Z K b S0 m sc ms c d y v zs sz lt S (ps_b (ps_b (self sc (i + 1) m) _) _) S'
        cases q2 : self sc (i + 1) m with
        | error e =>
          rw [q2] at a2
          obtain ⟨F, rfl⟩ : ∃ g, F = g + 1 := ⟨F - 1, by omega⟩
          exact rd_43_b a2
        | ok q =>
          rw [q2] at a2
          obtain ⟨g1, g2, g3, g4, g5, g6, g7, -⟩ := hgd _ _ _ q q2
          obtain ⟨h3, c3, n3, z1, w1, u1, l1⟩ := a2
          obtain ⟨S3, e3, r3⟩ := ih F q.2.2.2.1 q.2.2.2.2 _ (c + q.2.2.1) y (zs ++ [z1]) _ _ (l + 1) S2 (by omega) (by omega) h3 c3 (by omega) (by omega) w1 (by rw [List.length_append, hz]; rfl)
          refine ⟨S3, e3, ?_⟩
          unfold ps_more at r3
          show rd_Z K b S0 m sc ms c d y v zs sz lt S (ps_b (ps_b (ps_args K self sc f q.2.2.2.1 q.2.2.2.2) _) _) S3
          cases q3 : ps_args K self sc f q.2.2.2.1 q.2.2.2.2 with
          | error e =>
            rw [q3] at r3
            exact r3
          | ok r =>
            rw [q3] at r3
            obtain ⟨j1, j2, j3, j4, j5, -⟩ := ps_args_good hgd _ _ _ _ q3
            have r3 : rd_Z K b S0 q.2.2.2.2 sc _ (c + q.2.2.1) d y v (zs ++ [z1]) _ _ S2 (ps_b (ps_take K 16 r.2.2.2.1) fun i2 => .ok (r, i2)) S3 := r3
            show rd_Z K b S0 m sc ms c d y v zs sz lt S (ps_b (ps_take K 16 r.2.2.2.1) _) S3
            cases q4 : ps_take K 16 r.2.2.2.1 with
            | error e =>
              rw [q4] at r3
              exact r3
            | ok i2 =>
              rw [q4] at r3
              obtain ⟨h4, c4, n4, zs', w2, y2, u2, l2⟩ := r3
              have w2 : nd_o (b + 1) S3 y 5 v ((zs ++ [z1]) ++ zs') (sz + q.2.2.1 + r.2.2.1) (lt + (q.2.2.2.2 - m) + (r.2.2.2.2 - q.2.2.2.2)) := w2
              have u2 : ∀ j, (hj : j < zs'.length) → nd_t (b + 1) S3 (c + q.2.2.1) (c + q.2.2.1 + r.2.2.1) d zs'[j] (tr_ls r.1 j) := u2
              obtain ⟨x1, x2⟩ := nd_t_b u1
              have n4' : nd_g (b + 1) (fun x => x < c + q.2.2.1 ∧ x ≠ y) S2 S3 := n4
              refine ⟨?_, ?_, ?_, z1 :: zs', ?_, ?_, fun j hj => ?_, ?_⟩
              · show rd_h K b S0 i2 r.2.2.2.2 sc (rd_ms ms (q.2.1 ++ r.2.1)) S3
                rw [rd_ms_a]
                exact h4
              · show S3.1 (b + 1) 6 = Int32.ofNat (c + (q.2.2.1 + r.2.2.1))
                rw [← Nat.add_assoc]
                exact c4
              · exact nd_trans (rd_tk_nd (k := 17) hX.1) (nd_trans n3 (nd_mono (fun x hx => ⟨by omega, hx.2⟩) n4'))
              · show nd_o (b + 1) S3 y 5 v (zs ++ z1 :: zs') (sz + (q.2.2.1 + r.2.2.1)) (lt + (r.2.2.2.2 - m))
                rw [List.append_cons, show sz + (q.2.2.1 + r.2.2.1) = sz + q.2.2.1 + r.2.2.1 by omega, show lt + (r.2.2.2.2 - m) = lt + (q.2.2.2.2 - m) + (r.2.2.2.2 - q.2.2.2.2) by omega]
                exact w2
              · show zs'.length + 1 = r.1.length + 1
                rw [y2]
              · show nd_t (b + 1) S3 c (c + (q.2.2.1 + r.2.2.1)) d (z1 :: zs')[j] (tr_ls (q.1 :: r.1) j)
                cases j with
                | zero => exact nd_t_r (Nat.le_refl _) (by omega) _ _ _ (nd_t_g (nd_mono (fun x hx => by omega) n4') _ _ _ u1)
                | succ j => exact nd_t_r (by omega) (by omega) _ _ _ (u2 j (Nat.lt_of_succ_lt_succ hj))
              · show nd_c (b + 1) S3 (q.2.2.1 + r.2.2.1) c = ps_cl (q.2.1 ++ r.2.1)
                exact rd_cl2 _ _ ((nd_c_g _ _ (nd_mono (fun x hx => by omega) n4')).trans l1) l2
    · rw [if_neg hk, if_neg hk]
      exact rd_Z0 hX h hc ho
theorem rd_call (hX : rd_X K V b S0) (hn : 5 ≤ n) (hs : rd_C K b S0 sc d (self sc) (fun S => rc_Reader_takeE n 43 (a + 1) 0 S)) (hgd : ∀ sc i m q, self sc i m = .ok q → ps_good K d i m q) {o : Nat} (h : rd_h K b S0 i m sc ms S) (hc : S.1 (b + 1) 6 = Int32.ofNat c) (hco : c ≤ o) (hoi : i = o + 1) : ∃ w S', fn_Reader_takeCall (rc_Reader_takeE n) (Int32.ofNat o) a S = some (w, S') ∧ rd_R K b S0 m sc ms c (d + 1) S (ps_call K self sc o i m) w S' := by
  have hb := hX.1
  have hi := h.2.1
  unfold fn_Reader_takeCall ps_call
  rw [rd_r2 hX h.1, if_pos (rd_t2 hX), fo_open, wd_c_s, fo_takeKind, wd_d_s, hc]
  have h1 := rd_op_h (k := 5) (v := Int32.ofNat o) hb h
  obtain ⟨o1, o2, o3⟩ := nd_op (k := 5) (v := Int32.ofNat o) (rd_L hX) hc (show c < 1500 by omega)
  rw [if_neg (by decide)] at o3
  cases q1 : ps_take K 15 i with
  | error e =>
    have h2 := rd_tk_er hX h1 q1
    rw [if_neg (rd_bd_ne h2 (by decide) (by decide)), rd_r2 hX h2.1, if_pos (rd_t2 hX)]
    obtain ⟨S2, e2, h3⟩ := rd_ba (a := a + 1) (y := Int32.ofNat c) hX hn h2
    rw [e2, show wd_F = 999999 + 1 from rfl]
    obtain ⟨S3, e3, h4⟩ := rd_43_b (a := a) (z := Int32.ofNat c) (l := 0) (f := 999999) (n := n) h3
    exact ⟨_, _, e3, h4⟩
  | ok i1 =>
    obtain ⟨t1, t2, rfl, t4⟩ := ps_take_ok q1
    have h2 := rd_tk_ok hX h1 q1
    have c2 : (fo_tk 15 (fo_op (b + 1) 5 (Int32.ofNat o) S)).1 (b + 1) 6 = Int32.ofNat (c + 1) := by rw [rd_tk_c hb]; exact o1
    have w0 := nd_o_g (p := fun _ => True) trivial (rd_tk_nd (k := 15) hb) o3
    have o2 := nd_trans o2 (rd_tk_nd (k := 15) hb)
    generalize fo_tk 15 (fo_op (b + 1) 5 (Int32.ofNat o) S) = S2 at h2 c2 w0 o2 ⊢
    rw [h2.2.2.2.2.1]
    show ∃ w S', _ ∧ rd_R K b S0 m sc ms c (d + 1) S (if K (i + 1) = 16 then _ else _) w S'
    by_cases hk : K (i + 1) = 16
    · rw [if_pos hk, if_pos hk]
      unfold fn_Reader_takeCall_87
      rw [fo_takeKind, wd_d_s]
      refine ⟨_, _, rfl, ?_⟩
      cases q2 : ps_take K 16 (i + 1) with
      | error e => exact rd_tk_er hX h2 q2
      | ok i2 =>
        have w1 := nd_o_g (p := fun _ => True) trivial (rd_tk_nd (k := 16) hb) w0
        refine ⟨rd_tk_ok hX h2 q2, ?_, nd_trans (nd_mono (fun x hx => by omega) o2) (rd_tk_nd hb), c, rfl, ?_, ?_, ?_, ?_⟩
        · rw [rd_tk_c hb]
          exact c2
        · exact nd_t_mk (zs := []) (Nat.le_refl _) (by show c < c + 1; omega) w1 (fun j hj => absurd hj (Nat.not_lt_zero _))
        · rw [w1.2.2.2.1]
        · rw [w1.2.2.2.2.1]
          show Int32.ofNat 0 = Int32.ofNat (m - m)
          rw [Nat.sub_self]
        · show nd_c (b + 1) _ 1 c = [(Int32.ofNat o, Int32.ofNat (1 - 1))]
          rw [nd_c_s, if_pos w1.1, w1.2.1, w1.2.2.1]
          rfl
    · rw [if_neg hk, if_neg hk, rd_r2 hX h2.1, if_pos (rd_t2 hX)]
      obtain ⟨S3, e3, a3⟩ := rd_ea hX hs (hgd sc _ _) h2 c2 (by omega) (Nat.lt_succ_self c) w0 (by decide)
      rw [e3]
      cases q2 : self sc (i + 1) m with
      | error e =>
        rw [q2] at a3
        obtain ⟨S4, e4, h4⟩ := rd_43_b (a := a) (z := Int32.ofNat c) (l := 0) (f := 999999) (n := n) a3
        exact ⟨_, _, e4, h4⟩
      | ok q =>
        rw [q2] at a3
        obtain ⟨g1, g2, g3, g4, g5, g6, g7, -⟩ := hgd _ _ _ q q2
        obtain ⟨h3, c3, n3, z1, w1, u1, l1⟩ := a3
        obtain ⟨S4, e4, r4⟩ := rd_args hX hn hs hgd 1500 wd_F q.2.2.2.1 q.2.2.2.2 _ _ c _ _ _ 0 S3 rfl (by decide) h3 c3 (by omega) (by omega) w1 rfl
        refine ⟨_, _, e4, ?_⟩
        unfold ps_more at r4
        show rd_R K b S0 m sc ms c (d + 1) S (ps_b (ps_args K self sc 1500 q.2.2.2.1 q.2.2.2.2) _) _ S4
        cases q3 : ps_args K self sc 1500 q.2.2.2.1 q.2.2.2.2 with
        | error e =>
          rw [q3] at r4
          exact r4
        | ok r =>
          rw [q3] at r4
          obtain ⟨j1, j2, j3, j4, j5, -⟩ := ps_args_good hgd _ _ _ _ q3
          have r4 : rd_Z K b S0 q.2.2.2.2 sc _ (c + 1 + q.2.2.1) d c (Int32.ofNat o) ([] ++ [z1]) _ _ S3 (ps_b (ps_take K 16 r.2.2.2.1) fun i2 => .ok (r, i2)) S4 := r4
          show rd_R K b S0 m sc ms c (d + 1) S (ps_b (ps_take K 16 r.2.2.2.1) _) _ S4
          cases q4 : ps_take K 16 r.2.2.2.1 with
          | error e =>
            rw [q4] at r4
            exact r4
          | ok i2 =>
            rw [q4] at r4
            obtain ⟨h4, c4, n4, zs', w2, y2, u2, l2⟩ := r4
            have w2 : nd_o (b + 1) S4 c 5 (Int32.ofNat o) (z1 :: zs') (1 + q.2.2.1 + r.2.2.1) (0 + (q.2.2.2.2 - m) + (r.2.2.2.2 - q.2.2.2.2)) := w2
            have n4 : nd_g (b + 1) (fun x => x < c + 1 + q.2.2.1 ∧ x ≠ c) S3 S4 := n4
            have y2 : zs'.length = r.1.length := y2
            have u2 : ∀ j, (hj : j < zs'.length) → nd_t (b + 1) S4 (c + 1 + q.2.2.1) (c + 1 + q.2.2.1 + r.2.2.1) d zs'[j] (tr_ls r.1 j) := u2
            refine ⟨?_, ?_, ?_, c, rfl, ?_, ?_, ?_, ?_⟩
            · show rd_h K b S0 i2 r.2.2.2.2 sc (rd_ms ms ((o, r.1.length + 2) :: (q.2.1 ++ r.2.1))) S4
              rw [show rd_ms ms ((o, r.1.length + 2) :: (q.2.1 ++ r.2.1)) = rd_ms ms (q.2.1 ++ r.2.1) from congrArg (fun z => rd_ms z (q.2.1 ++ r.2.1)) (if_neg (fun z => absurd z.1 (Nat.succ_ne_zero _))), rd_ms_a]
              exact h4
            · show S4.1 (b + 1) 6 = Int32.ofNat (c + (1 + q.2.2.1 + r.2.2.1))
              rw [show c + (1 + q.2.2.1 + r.2.2.1) = c + 1 + q.2.2.1 + r.2.2.1 by omega]
              exact c4
            · exact nd_trans (nd_mono (fun x hx => by omega) o2) (nd_trans (nd_mono (fun x hx => by omega) n3) (nd_mono (fun x hx => by omega) n4))
            · show nd_t (b + 1) S4 c (c + (1 + q.2.2.1 + r.2.2.1)) (d + 1) c (tr_mk 5 (Int32.ofNat o) o (r.1.length + 1) (tr_ls (q.1 :: r.1)))
              rw [show r.1.length + 1 = (z1 :: zs').length by rw [← y2]; rfl]
              refine nd_t_mk (zs := z1 :: zs') (Nat.le_refl _) (by omega) w2 (fun j hj => ?_)
              cases j with
              | zero => exact nd_t_r (by omega) (by omega) _ _ _ (nd_t_g (nd_mono (fun x hx => by omega) n4) _ _ _ u1)
              | succ j => exact nd_t_r (by omega) (by omega) _ _ _ (u2 j (Nat.lt_of_succ_lt_succ hj))
            · rw [w2.2.2.2.1]
            · rw [w2.2.2.2.2.1]
              show Int32.ofNat (0 + (q.2.2.2.2 - m) + (r.2.2.2.2 - q.2.2.2.2)) = Int32.ofNat (r.2.2.2.2 - m)
              congr 1
              omega
            · show nd_c (b + 1) S4 (1 + q.2.2.1 + r.2.2.1) c = (Int32.ofNat o, Int32.ofNat (r.1.length + 2 - 1)) :: ps_cl (q.2.1 ++ r.2.1)
              rw [show 1 + q.2.2.1 + r.2.2.1 = (q.2.2.1 + r.2.2.1) + 1 by omega, nd_c_s, if_pos w2.1, w2.2.1, w2.2.2.1, show (z1 :: zs').length = r.1.length + 2 - 1 by rw [← y2]; rfl]
              congr 1
              exact rd_cl2 _ _ ((nd_c_g _ _ (nd_mono (fun x hx => by omega) n4)).trans l1) l2
theorem rd_name_b (hX : rd_X K V b S0) (h : rd_bd b S0 e s S) (hs : s ≤ 1000) : ∃ w S', fn_Reader_nameAlone z S = some (w, S') ∧ rd_bd b S0 e s S' := by
  obtain ⟨w, w1, -⟩ := fo_lastOf (r := 50) (x := lo_at 9 z S) (S := S) s wd_F (by omega) (by rw [show wd_F = 1000000 from rfl]; omega)
  have w1 : fn_LongRow_lastOf 50 (lo_at 9 z S) (Int32.ofNat s) S = some (w, S) := w1
  have h38 : ∀ (l : Int32) (S2 : wd_S), rd_bd b S0 e s S2 → ∃ w S', fn_Reader_nameAlone_38 l S2 = some (w, S') ∧ rd_bd b S0 e s S' := by
    intro l S2 h2
    unfold fn_Reader_nameAlone_38
    rw [rd_r2 hX h2.1, if_pos (rd_t2 hX), ro_at_ok, wd_c_s, fo_open, wd_c_s]
    exact ⟨_, _, rfl, rd_op_b hX.1 h2⟩
  unfold fn_Reader_nameAlone
  rw [fo_value, wd_c_s, h.2.1, w1, wd_c_s]
  split
  · split
    · exact h38 _ _ (rd_bd_i (by decide) h)
    · exact h38 _ _ h
  · exact h38 _ _ h
theorem rd_atom (hX : rd_X K V b S0) (hn : 5 ≤ n) (hs : ∀ n', n ≤ n' → rd_C K b S0 sc d (self sc) (fun S => rc_Reader_takeE n' 43 (a + 1) 0 S)) (hgd : ∀ sc i m q, self sc i m = .ok q → ps_good K d i m q) : rd_C K b S0 sc (d + 1) (ps_atom K V self sc) (fun S => fn_Reader_takeAtom (rc_Reader_takeE (n + 1)) a S) := by
  intro i m ms c S h hc hci
  have hb := hX.1
  have e4 : S.1 47 4 = K i := h.2.2.2.2.1
  have hsl : sc.length ≤ 1000 := by have := h.2.2.2.2.2.2.2.1; have := h.2.2.2.2.2.2.2.2.2.1; omega
  show ∃ x S', fn_Reader_takeAtom (rc_Reader_takeE (n + 1)) a S = some (x, S') ∧ _
  unfold fn_Reader_takeAtom ps_atom
  rw [e4]
  by_cases k1 : K i = 1
  · rw [if_pos k1, if_neg (show ¬K i = 7 by rw [k1]; decide), if_pos k1]
    obtain ⟨x, S', e1, r⟩ := rd_num (s := 1) hX h hc hci
    rw [e1, wd_c_s]
    exact ⟨_, _, rfl, rd_R_d (by omega) r⟩
  · rw [if_neg k1]
    by_cases k2 : K i = 2
    · rw [if_pos k2, if_neg (show ¬K i = 7 by rw [k2]; decide), if_neg k1, if_pos k2, fo_takeKind, wd_d_s]
      cases q1 : ps_take K 2 i with
      | error e =>
        have h1 := rd_tk_er hX h q1
        rw [if_neg (rd_bd_ne h1 (by decide) (by decide))]
        obtain ⟨w, S', e1, h2⟩ := rd_name_b (z := (fo_tk 2 S).1 47 3 - 1) hX h1 hsl
        rw [e1, wd_c_s]
        exact ⟨_, _, rfl, h2⟩
      | ok i1 =>
        obtain ⟨t1, t2, rfl, t4⟩ := ps_take_ok q1
        have h1 := rd_tk_ok hX h q1
        have c1 : (fo_tk 2 S).1 (b + 1) 6 = Int32.ofNat c := by rw [rd_tk_c hb]; exact hc
        rw [h1.2.2.2.2.1, h1.2.2.2.1, im_p]
        show ∃ x S', _ ∧ rd_R K b S0 m sc ms c (d + 1) S (if K (i + 1) = 15 then _ else _) x S'
        by_cases k15 : K (i + 1) = 15
        · rw [if_pos k15, if_pos k15, rc_54]
          obtain ⟨w, S', e2, r⟩ := rd_call hX hn (hs n (Nat.le_refl _)) hgd h1 c1 hci rfl
          rw [e2, wd_c_s]
          exact ⟨_, _, rfl, rd_R_pre (rd_tk_nd hb) r⟩
        · rw [if_neg k15, if_neg k15]
          obtain ⟨w, S', e2, r⟩ := rd_name hX h1 rfl k2 c1 hci
          rw [e2, wd_c_s]
          exact ⟨_, _, rfl, rd_R_pre (rd_tk_nd hb) (rd_R_d (d := 1) (r := .ok (ps_name V sc i (i + 1) m)) (by omega) r)⟩
    · rw [if_neg k2]
      by_cases k7 : K i = 7
      · rw [if_pos k7, if_pos k7, fo_takeKind, wd_d_s]
        cases q1 : ps_take K 7 i with
        | error e =>
          have h1 := rd_tk_er hX h q1
          unfold fn_Reader_takeNumber
          rw [fo_value, wd_c_s, fo_takeKind, wd_d_s]
          have h2 := rd_bd_tk (k := 1) h1 (by decide) (by decide)
          rw [rd_r2 hX h2.1, if_pos (rd_t2 hX), fo_open, wd_c_s, wd_c_s]
          exact ⟨_, _, rfl, rd_op_b hb h2⟩
        | ok i1 =>
          obtain ⟨t1, t2, rfl, t4⟩ := ps_take_ok q1
          have h1 := rd_tk_ok hX h q1
          obtain ⟨x, S', e1, r⟩ := rd_num (s := -1) hX h1 (c := c) (by rw [rd_tk_c hb]; exact hc) (by omega)
          rw [e1, wd_c_s]
          exact ⟨_, _, rfl, rd_R_pre (rd_tk_nd hb) (rd_R_d (by omega) r)⟩
      · rw [if_neg k7, if_neg k7, if_neg k1, if_neg k2]
        by_cases k15 : K i = 15
        · rw [if_pos k15, if_pos k15, fo_takeKind, wd_d_s]
          cases q1 : ps_take K 15 i with
          | error e =>
            have h1 := rd_tk_er hX h q1
            obtain ⟨n, rfl⟩ : ∃ g, n = g + 5 := ⟨n - 5, by omega⟩
            rw [rd_b43 (n := n + 1) h1, wd_c_s, fo_takeKind, wd_d_s]
            exact ⟨_, _, rfl, rd_bd_tk (rd_bd_rf h1).1 (by decide) (by decide)⟩
          | ok i1 =>
            obtain ⟨t1, t2, rfl, t4⟩ := ps_take_ok q1
            have h1 := rd_tk_ok hX h q1
            obtain ⟨x, S2, e1, r⟩ := hs (n + 1) (by omega) (i + 1) m ms c (fo_tk 15 S) h1 (by rw [rd_tk_c hb]; exact hc) (by omega)
            have e1 : rc_Reader_takeE (n + 1) 43 (a + 1) 0 (fo_tk 15 S) = some (x, S2) := e1
            rw [e1, wd_c_s, fo_takeKind, wd_d_s]
            refine ⟨_, _, rfl, ?_⟩
            show rd_R K b S0 m sc ms c (d + 1) S (ps_b (self sc (i + 1) m) _) x _
            cases q2 : self sc (i + 1) m with
            | error e =>
              rw [q2] at r
              exact rd_bd_tk r (by decide) (by decide)
            | ok q =>
              rw [q2] at r
              obtain ⟨h3, c3, n3, y, ey, u3, s3, l3, k3⟩ := r
              show rd_R K b S0 m sc ms c (d + 1) S (ps_b (ps_take K 16 q.2.2.2.1) _) x _
              cases q3 : ps_take K 16 q.2.2.2.1 with
              | error e => exact rd_tk_er hX h3 q3
              | ok i2 =>
                obtain ⟨v1, v2, v3, v4, v5, v6⟩ := rd_tk_nd (p := fun _ => True) (k := 16) (S := S2) hb y trivial
                refine ⟨rd_tk_ok hX h3 q3, ?_, nd_trans (rd_tk_nd hb) (nd_trans n3 (rd_tk_nd hb)), y, ey, nd_t_s _ _ _ (nd_t_g (rd_tk_nd hb) _ _ _ u3), v4.trans s3, v5.trans l3, (nd_c_g _ _ (rd_tk_nd hb)).trans k3⟩
                rw [rd_tk_c hb]
                exact c3
        · rw [if_neg k15, if_neg k15, fo_refuse, wd_d_s]
          exact ⟨_, _, rfl, rd_refuse h⟩
end Rd6
