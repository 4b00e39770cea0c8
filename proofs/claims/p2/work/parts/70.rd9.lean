/-! A function of the class's reader. -/
def rd_fb (b G : Nat) (e : ps_E) (S : wd_S) : Prop := ∃ s g, s ≤ 100 ∧ g ≤ G ∧ rd_bd b S e s S ∧ S.1 b 3 = Int32.ofNat g
def rd_U (K : Nat → Int32) (b : Nat) (S : wd_S) (fs : List ps_F) (c : Nat) (ms : Int32) (r : Except ps_E (ps_F × Nat)) (S' : wd_S) : Prop := of_f (rf_W b) S S' ∧ match r with
  | .error e => rd_fb b 60 e S'
  | .ok q => (∃ m sc, rd_h K b S' q.2 m sc (rd_ms ms q.1.2.2.2.1) S') ∧ rd_P b (fs ++ [q.1]) (c + q.1.2.2.2.2.1) S'
section Rd9
variable {K : Nat → Int32} {V : Nat → Int64} {b : Nat} {S0 : wd_S} {i m : Nat} {sc : List (Int64 × Nat)} {ms : Int32} {S S' S1 : wd_S} {e : ps_E} {s : Nat} {k : Int32} {n c d : Nat} {a z u v : Int32} {self : ps_P} {x : Int64} {fs : List ps_F} {g G : Nat}
theorem rd_bd_re (h : rd_bd b S0 e s S) (h1 : S'.1 47 = S.1 47) : rd_bd b S' e s S' := by
  obtain ⟨-, a2, a3, a4⟩ := h
  refine ⟨of_refl, ?_, a3, ?_⟩
  · rw [h1]; exact a2
  · rw [h1]; exact a4
theorem rd_h_re (h : rd_h K b S0 i m sc ms S) (h1 : S'.1 47 = S.1 47) (h2 : S'.1 53 = S.1 53) (h3 : S'.2.1 51 = S.2.1 51) : rd_h K b S' i m sc ms S' := by
  obtain ⟨-, a2, a3, a4, a5, a6, a7, a8, a9, a10, a11, a12⟩ := h
  refine ⟨of_refl, a2, a3, ?_, ?_, ?_, ?_, a8, ?_, a10, rd_sc_o (S := S) sc (fun m _ => ⟨by rw [h3], by rw [h2]⟩) a11, ?_⟩
  · rw [h1]; exact a4
  · rw [h1]; exact a5
  · rw [h1]; exact a6
  · rw [h1]; exact a7
  · rw [h1]; exact a9
  · rw [h1]; exact a12
theorem rd_prow (r : Nat) (i w : Int32) (S1 : wd_S) (a : Nat) (h : a ≠ r + 1) : (ro_put r i w S1).1 a = S1.1 a := by
  unfold ro_put
  split
  · rfl
  · exact fr_row S1 h
theorem fo_add {p : Int32} : fn_Bodies_add b p S = some (S.1 b 3 + 1 - 1, wd_i (ro_put (b + 16) (S.1 b 3) p S) b 3 (S.1 b 3 + 1)) := by
  unfold fn_Bodies_add
  simp only [wd_b]
  rw [ro_put_ok, wd_d_s, fr_eq, rd_prow _ _ _ _ _ (by omega)]
theorem fo_setRoot {p q : Int32} : fn_Bodies_setRoot b p q S = some (ro_put (b + 14) p q S) := by
  unfold fn_Bodies_setRoot
  rw [ro_put_ok, wd_d_s]
noncomputable def rd_f2 (S28 : wd_S) : Option wd_S := if tp_t (S28.2.2.1 47 1) = (0, 0) then wd_c (fn_Bodies_add (S28.2.2.1 47 1) (S28.1 47 8) S28) fun x33 S32 => if tp_t (S32.2.2.1 47 1) = (0, 0) then wd_c (rc_Reader_takeE 200 43 (0 : Int32) 0 S32) fun x37 S36 => wd_d (fn_Bodies_setRoot (S32.2.2.1 47 1) x33 x37 S36) fun S39 => wd_d (fn_Reader_takeKind (18 : Int32) S39) fun S42 => some S42 else none else none
theorem rd_124_eq : fn_Reader_takeFunction_124 S = rd_f2 (fo_tk 14 (fo_tk 16 S)) := by
  unfold fn_Reader_takeFunction_124
  rw [fo_takeKind, wd_d_s, fo_takeKind, wd_d_s]
  rfl
/-- setRoot and the last token -/
theorem rd_f3_b {p q : Int32} (hb : b = 11 ∨ b = 29) (h : rd_bd b S0 e s S) (hs : s ≤ 100) (hg : S.1 b 3 = Int32.ofNat g) (hg2 : g ≤ G) : of_f (rf_W b) S (fo_tk 18 (ro_put (b + 14) p q S)) ∧ rd_fb b G e (fo_tk 18 (ro_put (b + 14) p q S)) ∧ (fo_tk 18 (ro_put (b + 14) p q S)).1 47 4 = 20 := by
  have h5 : rd_bd b (ro_put (b + 14) p q S) e s (ro_put (b + 14) p q S) := rd_bd_re h (rd_prow _ _ _ _ _ (by omega))
  have h6 := rd_bd_tk (k := 18) h5 (by decide) (by decide)
  refine ⟨of_trans (of_put (fun k => by unfold rf_W; omega) of_refl) (rf_of h6.1), ⟨s, g, hs, hg2, rd_bb h6, ?_⟩, ?_⟩
  · rw [h6.1.1 b 3 (by unfold rd_W; omega), rd_prow _ _ _ _ _ (by omega)]
    exact hg
  · unfold fo_tk
    rw [if_neg (rd_bd_ne h5 (by decide) (by decide))]
    exact (rd_bd_rf h5).2
theorem rd_f2_b (hX : rd_X K V b S) (h : rd_bd b S e s S) (hs : s ≤ 100) (hg : S.1 b 3 = Int32.ofNat g) (hg2 : g + 1 ≤ G) : ∃ S', rd_f2 S = some S' ∧ of_f (rf_W b) S S' ∧ rd_fb b G e S' ∧ S'.1 47 4 = 20 := by
  have hb := hX.1
  unfold rd_f2
  rw [rd_r1 hX h.1, if_pos (rd_t1 hX), fo_add, wd_c_s, hg, im_s, im_p]
  generalize hS3 : wd_i (ro_put (b + 16) (Int32.ofNat g) (S.1 47 8) S) b 3 (Int32.ofNat (g + 1)) = S3
  have o3 : of_f (rf_W b) S S3 := by
    rw [← hS3]
    exact of_i (by unfold rf_W; omega) (of_put (fun k => by unfold rf_W; omega) of_refl)
  have e47 : S3.1 47 = S.1 47 := by rw [← hS3, fr_row _ (by omega), rd_prow _ _ _ _ _ (by omega)]
  have h3 : rd_bd b S3 e s S3 := rd_bd_re h e47
  have hX3 := rd_X_o hX o3
  rw [rd_r1 hX3 of_refl, if_pos (rd_t1 hX), rd_b43 (n := 195) h3, wd_c_s, fo_setRoot, wd_d_s, fo_takeKind, wd_d_s]
  obtain ⟨h4, h4a⟩ := rd_bd_rf h3
  obtain ⟨f1, f2, f3⟩ := rd_f3_b (G := G) (p := Int32.ofNat g) (q := 0) hb h4 hs (show (fo_rf S3).1 b 3 = Int32.ofNat (g + 1) by rw [h4.1.1 b 3 (by unfold rd_W; omega), ← hS3, fr_eq]) (by omega)
  exact ⟨_, rfl, of_trans o3 (of_trans (rf_of h4.1) f1), f2, f3⟩
theorem rd_124_b (hX : rd_X K V b S) (h : rd_bd b S e s S) (hs : s ≤ 100) (hg : S.1 b 3 = Int32.ofNat g) (hg2 : g + 1 ≤ G) : ∃ S', fn_Reader_takeFunction_124 S = some S' ∧ of_f (rf_W b) S S' ∧ rd_fb b G e S' ∧ S'.1 47 4 = 20 := by
  have hb := hX.1
  rw [rd_124_eq]
  have h2 := rd_bd_tk (k := 14) (rd_bd_tk (k := 16) h (by decide) (by decide)) (by decide) (by decide)
  generalize fo_tk 14 (fo_tk 16 S) = S2 at h2 ⊢
  obtain ⟨S', e1, f1, f2, f3⟩ := rd_f2_b (rd_X_o hX (rf_of h2.1)) (rd_bb h2) hs (show S2.1 b 3 = Int32.ofNat g by rw [h2.1.1 b 3 (by unfold rd_W; omega)]; exact hg) hg2
  exact ⟨S', e1, of_trans (rf_of h2.1) f1, f2, f3⟩
theorem rd_124 (hX : rd_X K V b S) {o : Nat} (h : rd_h K b S i sc.length sc ms S) (hP : rd_P b fs c S) (hc : c ≤ i) (h48 : fs.length < 48) (hk : S.2.1 49 fs.length = V o) : ∃ S', fn_Reader_takeFunction_124 S = some S' ∧ rd_U K b S fs c ms (ps_body K V o (sc, i)) S' := by
  have hb := hX.1
  have hsl : sc.length ≤ 16 := h.2.2.2.2.2.2.2.1
  rw [rd_124_eq]
  unfold ps_body
  show ∃ S', _ ∧ rd_U K b S fs c ms (ps_b (ps_take K 16 i) _) S'
  cases q1 : ps_take K 16 i with
  | error e =>
    have h2 := rd_bd_tk (k := 14) (rd_tk_er hX h q1) (by decide) (by decide)
    generalize fo_tk 14 (fo_tk 16 S) = S2 at h2 ⊢
    obtain ⟨S', e1, f1, f2, f3⟩ := rd_f2_b (G := 60) (rd_X_o hX (rf_of h2.1)) (rd_bb h2) (by omega) (show S2.1 b 3 = Int32.ofNat fs.length by rw [h2.1.1 b 3 (by unfold rd_W; omega)]; exact hP.1) (by omega)
    exact ⟨S', e1, of_trans (rf_of h2.1) f1, f2⟩
  | ok i4 =>
    obtain ⟨t1, t2, rfl, t4⟩ := ps_take_ok q1
    have h1 := rd_tk_ok hX h q1
    show ∃ S', _ ∧ rd_U K b S fs c ms (ps_b (ps_take K 14 (i + 1)) _) S'
    cases q2 : ps_take K 14 (i + 1) with
    | error e =>
      have h2 := rd_tk_er hX h1 q2
      generalize fo_tk 14 (fo_tk 16 S) = S2 at h2 ⊢
      obtain ⟨S', e1, f1, f2, f3⟩ := rd_f2_b (G := 60) (rd_X_o hX (rf_of h2.1)) (rd_bb h2) (by omega) (show S2.1 b 3 = Int32.ofNat fs.length by rw [h2.1.1 b 3 (by unfold rd_W; omega)]; exact hP.1) (by omega)
      exact ⟨S', e1, of_trans (rf_of h2.1) f1, f2⟩
    | ok i5 =>
      obtain ⟨t5, t6, rfl, t8⟩ := ps_take_ok q2
      have h2 := rd_tk_ok hX h1 q2
      have a1 : ∀ a, a ≠ 47 → (fo_tk 14 (fo_tk 16 S)).1 a = S.1 a := fun a ha => by rw [(rd_tk_out (k := 14)).1 a ha, (rd_tk_out (k := 16)).1 a ha]
      have a2 : (fo_tk 14 (fo_tk 16 S)).2 = S.2 := by rw [(rd_tk_out (k := 14)).2.2, (rd_tk_out (k := 16)).2.2]
      generalize fo_tk 14 (fo_tk 16 S) = S2 at h2 a1 a2 ⊢
      have hX2 := rd_X_o hX (rf_of h2.1)
      have hP2 : rd_P b fs c S2 := rd_P_o (fun a y1 y2 => a1 a (by omega)) (fun j _ => by rw [a2]) hP
      obtain ⟨p1, p2, p3, p4, p5⟩ := hP2
      unfold rd_f2
      rw [rd_r1 hX h2.1, if_pos (rd_t1 hX), fo_add, wd_c_s, p1, im_s, im_p, h2.2.2.2.2.2.2.1, ro_pn (L := 48) (by rcases hb with z | z <;> rw [z] <;> rfl) h48]
      generalize hS3 : wd_i (wd_i S2 (b + 16 + 1) fs.length (Int32.ofNat sc.length)) b 3 (Int32.ofNat (fs.length + 1)) = S3
      have o3 : of_f (rf_W b) S2 S3 := by
        rw [← hS3]
        exact of_i (by unfold rf_W; omega) (of_i (by unfold rf_W; omega) of_refl)
      have b1 : ∀ a, a ≠ b → a ≠ b + 17 → S3.1 a = S2.1 a := fun a y1 y2 => by rw [← hS3, fr_row _ y1, fr_row _ (by omega)]
      have b2 : S3.2 = S2.2 := by rw [← hS3]; rfl
      have hX3 := rd_X_o hX2 o3
      have h3 : rd_h K b S3 (i + 1 + 1) sc.length sc ms S3 := rd_h_re h2 (b1 47 (by omega) (by omega)) (b1 53 (by omega) (by omega)) (by rw [b2])
      have c3 : S3.1 (b + 1) 6 = Int32.ofNat c := by rw [b1 (b + 1) (by omega) (by omega)]; exact p3
      have g3 : ∀ p : Nat → Prop, nd_g (b + 1) p S2 S3 := fun p => nd_rows (fun a y1 y2 => b1 a (by omega) (by omega))
      rw [rd_r1 hX3 of_refl, if_pos (rd_t1 hX)]
      obtain ⟨x, S4, e4, r4⟩ := rd_ex hX3 24 (by decide) 200 (by decide) sc (i + 1 + 1) sc.length ms c S3 h3 c3 (by omega)
      have e4 : rc_Reader_takeE 200 43 0 0 S3 = some (x, S4) := e4
      rw [e4, wd_c_s, fo_setRoot, wd_d_s, fo_takeKind, wd_d_s]
      show ∃ S', _ ∧ rd_U K b S fs c ms (ps_b (ps_ex K V 24 sc (i + 1 + 1) sc.length) _) S'
      cases q3 : ps_ex K V 24 sc (i + 1 + 1) sc.length with
      | error e =>
        rw [q3] at r4
        have r4 : rd_bd b S3 e sc.length S4 := r4
        obtain ⟨f1, f2, f3⟩ := rd_f3_b (G := 60) (p := Int32.ofNat fs.length) (q := x) (g := fs.length + 1) hb r4 (by omega) (by rw [r4.1.1 b 3 (by unfold rd_W; omega), ← hS3, fr_eq]) (by omega)
        exact ⟨_, rfl, of_trans (rf_of h2.1) (of_trans o3 (of_trans (rf_of r4.1) f1)), f2⟩
      | ok q =>
        rw [q3] at r4
        obtain ⟨h4, c4, n4, y, rfl, u4, s4, l4, k4⟩ := r4
        obtain ⟨g1, g2, g3', g4, g5, g6, g7, -⟩ := ps_ex_good _ _ _ _ _ q3
        rw [ro_pn (L := 48) (by rcases hb with z | z <;> rw [z] <;> rfl) h48]
        generalize hS5 : wd_i S4 (b + 14 + 1) fs.length (Int32.ofNat y) = S5
        have o5 : of_f (rf_W b) S4 S5 := by
          rw [← hS5]
          exact of_i (by unfold rf_W; omega) of_refl
        have d1 : ∀ a, a ≠ b + 15 → S5.1 a = S4.1 a := fun a y1 => by rw [← hS5, fr_row _ (by omega)]
        have d2 : S5.2 = S4.2 := by rw [← hS5]; rfl
        have hX5 := rd_X_o (rd_X_o hX3 (rf_of h4.1)) o5
        have h5 := rd_h_re h4 (d1 47 (by omega)) (d1 53 (by omega)) (by rw [d2])
        have O5 : of_f (rf_W b) S S5 := of_trans (rf_of h2.1) (of_trans o3 (of_trans (rf_of h4.1) o5))
        have gR : ∀ p : Nat → Prop, nd_g (b + 1) p S4 S5 := fun p => nd_rows (fun a y1 y2 => d1 a (by omega))
        show ∃ S', _ ∧ rd_U K b S fs c ms (ps_b (ps_take K 18 q.2.2.2.1) _) S'
        cases q4 : ps_take K 18 q.2.2.2.1 with
        | error e =>
          have h6 := rd_tk_er hX5 h5 q4
          refine ⟨_, rfl, of_trans O5 (rf_of h6.1), sc.length, fs.length + 1, by omega, by omega, rd_bb h6, ?_⟩
          rw [h6.1.1 b 3 (by unfold rd_W; omega), d1 b (by omega), h4.1.1 b 3 (by unfold rd_W; omega), ← hS3, fr_eq]
        | ok i6 =>
          have h6 := rd_tk_ok hX5 h5 q4
          obtain ⟨j1, -, j2⟩ := rd_tk_out (k := 18) (S := S5)
          refine ⟨_, rfl, of_trans O5 (rf_of h6.1), ⟨q.2.2.2.2, sc, rd_rb h6⟩, ?_⟩
          refine rd_P_o (S := S5) (fun a y1 y2 => j1 a (by omega)) (fun j _ => by rw [j2]) ?_
          have e49 : S5.2.1 49 = S.2.1 49 := by
            funext m'
            rw [d2, h4.1.2.1 49 m' (by unfold rd_W; omega), b2, a2]
          have e17 : ∀ j, j ≠ fs.length → S5.1 (b + 17) j = S2.1 (b + 17) j := fun j hj => by
            rw [d1 _ (by omega), h4.1.1 (b + 17) j (by unfold rd_W; omega), ← hS3, fr_ne (by omega), fr_ne (by omega)]
          have e15 : ∀ j, j ≠ fs.length → S5.1 (b + 15) j = S2.1 (b + 15) j := fun j hj => by
            rw [← hS5, fr_ne (by omega), h4.1.1 (b + 15) j (by unfold rd_W; omega), b1 _ (by omega) (by omega)]
          have gN : nd_g (b + 1) (fun x => x < c) S2 S5 := nd_trans (g3 _) (nd_trans n4 (gR _))
          refine ⟨?_, ?_, ?_, fun j hj => ?_, ?_⟩
          · rw [d1 b (by omega), h4.1.1 b 3 (by unfold rd_W; omega), ← hS3, fr_eq, List.length_append]
            rfl
          · rw [List.length_append]
            exact h48
          · rw [d1 (b + 1) (by omega)]
            exact c4
          · have hj' : j < fs.length + 1 := by rw [List.length_append] at hj; exact hj
            by_cases hj2 : j < fs.length
            · rw [List.getElem_append_left hj2]
              obtain ⟨w1, w2, y', w3, w4, w5, w6⟩ := p4 j hj2
              obtain ⟨-, -, -, v4, v5, -⟩ := gN y' (nd_t_b w4).2
              refine ⟨?_, ?_, y', ?_, nd_t_r (Nat.le_refl _) (by omega) _ _ _ (nd_t_g (nd_mono (fun x hx => hx.2) gN) _ _ _ w4), v4.trans w5, v5.trans w6⟩
              · rw [e49, ← a2]; exact w1
              · rw [e17 j (by omega)]; exact w2
              · rw [e15 j (by omega)]; exact w3
            · have ej : j = fs.length := by omega
              subst ej
              rw [List.getElem_append_right (Nat.le_refl _)]
              simp only [Nat.sub_self, List.getElem_cons_zero]
              obtain ⟨-, -, -, v4, v5, -⟩ := gR (fun _ => True) y trivial
              refine ⟨?_, ?_, y, ?_, nd_t_r (Nat.zero_le _) (Nat.le_refl _) _ _ _ (nd_t_g (gR _) _ _ _ u4), v4.trans s4, v5.trans l4⟩
              · rw [e49]; exact hk
              · rw [d1 _ (by omega), h4.1.1 (b + 17) _ (by unfold rd_W; omega), ← hS3, fr_ne (by omega), fr_e (by omega)]
              · rw [← hS5, fr_e (by omega)]
          · rw [List.flatMap_append, ps_cl_a, nd_c_a]
            congr 1
            · rw [nd_c_g _ _ (nd_mono (fun x hx => by omega) gN)]
              exact p5
            · rw [Nat.zero_add, List.flatMap_singleton]
              rw [nd_c_g _ _ (gR _)]
              exact k4
end Rd9
