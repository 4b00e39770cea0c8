/-! part 70 -/
section
/-! A function of the class's reader. -/
def rd_fb (b G : Nat) (e : ps_E) (S : wd_S) : Prop := ∃ s g, s ≤ 100 ∧ g ≤ G ∧ rd_bd b S e s S ∧ S.1 b 3 = Int32.ofNat g
def rd_U (K : Nat → Int32) (b : Nat) (S : wd_S) (fs : List ps_F) (c : Nat) (ms : Int32) (r : Except ps_E (ps_F × Nat)) (S' : wd_S) : Prop := of_f (rf_W b) S S' ∧ match r with
  | .error e => rd_fb b 60 e S'
  | .ok q => (∃ m sc, rd_h K b S' q.2 m sc (rd_ms ms q.1.2.2.2.1) S') ∧ rd_P b (fs ++ [q.1]) (c + q.1.2.2.2.2.1) S'
section Rd9
variable {K : Nat → Int32} {V : Nat → Int64} {b : Nat} {S0 : wd_S} {i m : Nat} {sc : List (Int64 × Nat)} {ms : Int32} {S S' S1 : wd_S} {e : ps_E} {s : Nat} {k : Int32} {n c d : Nat} {a z u v : Int32} {self : ps_P} {x : Int64} {fs : List ps_F} {g G : Nat}
theorem rd_bd_re (h : rd_bd b S0 e s S) (h1 : S'.1 47 = S.1 47) : rd_bd b S' e s S' := by
  obtain ⟨-, a2, a3, a4⟩ := h
  refine ⟨of_refl, ?_, a3, ?_⟩
  · rw [h1]; exact a2
  · rw [h1]; exact a4
theorem rd_h_re (h : rd_h K b S0 i m sc ms S) (h1 : S'.1 47 = S.1 47) (h2 : S'.1 53 = S.1 53) (h3 : S'.2.1 51 = S.2.1 51) : rd_h K b S' i m sc ms S' := by
  obtain ⟨-, a2, a3, a4, a5, a6, a7, a8, a9, a10, a11, a12⟩ := h
  refine ⟨of_refl, a2, a3, ?_, ?_, ?_, ?_, a8, ?_, a10, rd_sc_o (S := S) sc (fun m _ => ⟨by rw [h3], by rw [h2]⟩) a11, ?_⟩
  · rw [h1]; exact a4
  · rw [h1]; exact a5
  · rw [h1]; exact a6
  · rw [h1]; exact a7
  · rw [h1]; exact a9
  · rw [h1]; exact a12
theorem rd_prow (r : Nat) (i w : Int32) (S1 : wd_S) (a : Nat) (h : a ≠ r + 1) : (ro_put r i w S1).1 a = S1.1 a := by
  unfold ro_put
  split
  · rfl
  · exact fr_row S1 h
theorem fo_add {p : Int32} : fn_Bodies_add b p S = some (S.1 b 3 + 1 - 1, wd_i (ro_put (b + 16) (S.1 b 3) p S) b 3 (S.1 b 3 + 1)) := by
  unfold fn_Bodies_add
  simp only [wd_b]
  rw [ro_put_ok, wd_d_s, fr_eq, rd_prow _ _ _ _ _ (by omega)]
theorem fo_setRoot {p q : Int32} : fn_Bodies_setRoot b p q S = some (ro_put (b + 14) p q S) := by
  unfold fn_Bodies_setRoot
  rw [ro_put_ok, wd_d_s]
noncomputable def rd_f2 (S28 : wd_S) : Option wd_S := if tp_t (S28.2.2.1 47 1) = (0, 0) then wd_c (fn_Bodies_add (S28.2.2.1 47 1) (S28.1 47 8) S28) fun x33 S32 => if tp_t (S32.2.2.1 47 1) = (0, 0) then wd_c (rc_Reader_takeE 200 43 (0 : Int32) 0 S32) fun x37 S36 => wd_d (fn_Bodies_setRoot (S32.2.2.1 47 1) x33 x37 S36) fun S39 => wd_d (fn_Reader_takeKind (18 : Int32) S39) fun S42 => some S42 else none else none
theorem rd_124_eq : fn_Reader_takeFunction_124 S = rd_f2 (fo_tk 14 (fo_tk 16 S)) := by
  unfold fn_Reader_takeFunction_124
  rw [fo_takeKind, wd_d_s, fo_takeKind, wd_d_s]
  rfl
/-- setRoot and the last token -/
theorem rd_f3_b {p q : Int32} (hb : b = 11 ∨ b = 29) (h : rd_bd b S0 e s S) (hs : s ≤ 100) (hg : S.1 b 3 = Int32.ofNat g) (hg2 : g ≤ G) : of_f (rf_W b) S (fo_tk 18 (ro_put (b + 14) p q S)) ∧ rd_fb b G e (fo_tk 18 (ro_put (b + 14) p q S)) ∧ (fo_tk 18 (ro_put (b + 14) p q S)).1 47 4 = 20 := by
  have h5 : rd_bd b (ro_put (b + 14) p q S) e s (ro_put (b + 14) p q S) := rd_bd_re h (rd_prow _ _ _ _ _ (by omega))
  have h6 := rd_bd_tk (k := 18) h5 (by decide) (by decide)
  refine ⟨of_trans (of_put (fun k => by unfold rf_W; omega) of_refl) (rf_of h6.1), ⟨s, g, hs, hg2, rd_bb h6, ?_⟩, ?_⟩
  · rw [h6.1.1 b 3 (by unfold rd_W; omega), rd_prow _ _ _ _ _ (by omega)]
    exact hg
  · unfold fo_tk
    rw [if_neg (rd_bd_ne h5 (by decide) (by decide))]
    exact (rd_bd_rf h5).2
theorem rd_f2_b (hX : rd_X K V b S) (h : rd_bd b S e s S) (hs : s ≤ 100) (hg : S.1 b 3 = Int32.ofNat g) (hg2 : g + 1 ≤ G) : ∃ S', rd_f2 S = some S' ∧ of_f (rf_W b) S S' ∧ rd_fb b G e S' ∧ S'.1 47 4 = 20 := by
  have hb := hX.1
  unfold rd_f2
  rw [rd_r1 hX h.1, if_pos (rd_t1 hX), fo_add, wd_c_s, hg, im_s, im_p]
  generalize hS3 : wd_i (ro_put (b + 16) (Int32.ofNat g) (S.1 47 8) S) b 3 (Int32.ofNat (g + 1)) = S3
  have o3 : of_f (rf_W b) S S3 := by
    rw [← hS3]
    exact of_i (by unfold rf_W; omega) (of_put (fun k => by unfold rf_W; omega) of_refl)
  have e47 : S3.1 47 = S.1 47 := by rw [← hS3, fr_row _ (by omega), rd_prow _ _ _ _ _ (by omega)]
  have h3 : rd_bd b S3 e s S3 := rd_bd_re h e47
  have hX3 := rd_X_o hX o3
  rw [rd_r1 hX3 of_refl, if_pos (rd_t1 hX), rd_b43 (n := 195) h3, wd_c_s, fo_setRoot, wd_d_s, fo_takeKind, wd_d_s]
  obtain ⟨h4, h4a⟩ := rd_bd_rf h3
  obtain ⟨f1, f2, f3⟩ := rd_f3_b (G := G) (p := Int32.ofNat g) (q := 0) hb h4 hs (show (fo_rf S3).1 b 3 = Int32.ofNat (g + 1) by rw [h4.1.1 b 3 (by unfold rd_W; omega), ← hS3, fr_eq]) (by omega)
  exact ⟨_, rfl, of_trans o3 (of_trans (rf_of h4.1) f1), f2, f3⟩
theorem rd_124_b (hX : rd_X K V b S) (h : rd_bd b S e s S) (hs : s ≤ 100) (hg : S.1 b 3 = Int32.ofNat g) (hg2 : g + 1 ≤ G) : ∃ S', fn_Reader_takeFunction_124 S = some S' ∧ of_f (rf_W b) S S' ∧ rd_fb b G e S' ∧ S'.1 47 4 = 20 := by
  have hb := hX.1
  rw [rd_124_eq]
  have h2 := rd_bd_tk (k := 14) (rd_bd_tk (k := 16) h (by decide) (by decide)) (by decide) (by decide)
  generalize fo_tk 14 (fo_tk 16 S) = S2 at h2 ⊢
  obtain ⟨S', e1, f1, f2, f3⟩ := rd_f2_b (rd_X_o hX (rf_of h2.1)) (rd_bb h2) hs (show S2.1 b 3 = Int32.ofNat g by rw [h2.1.1 b 3 (by unfold rd_W; omega)]; exact hg) hg2
  exact ⟨S', e1, of_trans (rf_of h2.1) f1, f2, f3⟩
theorem rd_124 (hX : rd_X K V b S) {o : Nat} (h : rd_h K b S i sc.length sc ms S) (hP : rd_P b fs c S) (hc : c ≤ i) (h48 : fs.length < 48) (hk : S.2.1 49 fs.length = V o) : ∃ S', fn_Reader_takeFunction_124 S = some S' ∧ rd_U K b S fs c ms (ps_body K V o (sc, i)) S' := by
  have hb := hX.1
  have hsl : sc.length ≤ 16 := h.2.2.2.2.2.2.2.1
  rw [rd_124_eq]
  unfold ps_body
  show ∃ S', _ ∧ rd_U K b S fs c ms (ps_b (ps_take K 16 i) _) S'
  cases q1 : ps_take K 16 i with
  | error e =>
    have h2 := rd_bd_tk (k := 14) (rd_tk_er hX h q1) (by decide) (by decide)
    generalize fo_tk 14 (fo_tk 16 S) = S2 at h2 ⊢
    obtain ⟨S', e1, f1, f2, f3⟩ := rd_f2_b (G := 60) (rd_X_o hX (rf_of h2.1)) (rd_bb h2) (by omega) (show S2.1 b 3 = Int32.ofNat fs.length by rw [h2.1.1 b 3 (by unfold rd_W; omega)]; exact hP.1) (by omega)
    exact ⟨S', e1, of_trans (rf_of h2.1) f1, f2⟩
  | ok i4 =>
    obtain ⟨t1, t2, rfl, t4⟩ := ps_take_ok q1
    have h1 := rd_tk_ok hX h q1
    show ∃ S', _ ∧ rd_U K b S fs c ms (ps_b (ps_take K 14 (i + 1)) _) S'
    cases q2 : ps_take K 14 (i + 1) with
    | error e =>
      have h2 := rd_tk_er hX h1 q2
      generalize fo_tk 14 (fo_tk 16 S) = S2 at h2 ⊢
      obtain ⟨S', e1, f1, f2, f3⟩ := rd_f2_b (G := 60) (rd_X_o hX (rf_of h2.1)) (rd_bb h2) (by omega) (show S2.1 b 3 = Int32.ofNat fs.length by rw [h2.1.1 b 3 (by unfold rd_W; omega)]; exact hP.1) (by omega)
      exact ⟨S', e1, of_trans (rf_of h2.1) f1, f2⟩
    | ok i5 =>
      obtain ⟨t5, t6, rfl, t8⟩ := ps_take_ok q2
      have h2 := rd_tk_ok hX h1 q2
      have a1 : ∀ a, a ≠ 47 → (fo_tk 14 (fo_tk 16 S)).1 a = S.1 a := fun a ha => by rw [(rd_tk_out (k := 14)).1 a ha, (rd_tk_out (k := 16)).1 a ha]
      have a2 : (fo_tk 14 (fo_tk 16 S)).2 = S.2 := by rw [(rd_tk_out (k := 14)).2.2, (rd_tk_out (k := 16)).2.2]
      generalize fo_tk 14 (fo_tk 16 S) = S2 at h2 a1 a2 ⊢
      have hX2 := rd_X_o hX (rf_of h2.1)
      have hP2 : rd_P b fs c S2 := rd_P_o (fun a y1 y2 => a1 a (by omega)) (fun j _ => by rw [a2]) hP
      obtain ⟨p1, p2, p3, p4, p5⟩ := hP2
      unfold rd_f2
      rw [rd_r1 hX h2.1, if_pos (rd_t1 hX), fo_add, wd_c_s, p1, im_s, im_p, h2.2.2.2.2.2.2.1, ro_pn (L := 48) (by rcases hb with z | z <;> rw [z] <;> rfl) h48]
      generalize hS3 : wd_i (wd_i S2 (b + 16 + 1) fs.length (Int32.ofNat sc.length)) b 3 (Int32.ofNat (fs.length + 1)) = S3
      have o3 : of_f (rf_W b) S2 S3 := by
        rw [← hS3]
        exact of_i (by unfold rf_W; omega) (of_i (by unfold rf_W; omega) of_refl)
      have b1 : ∀ a, a ≠ b → a ≠ b + 17 → S3.1 a = S2.1 a := fun a y1 y2 => by rw [← hS3, fr_row _ y1, fr_row _ (by omega)]
      have b2 : S3.2 = S2.2 := by rw [← hS3]; rfl
      have hX3 := rd_X_o hX2 o3
      have h3 : rd_h K b S3 (i + 1 + 1) sc.length sc ms S3 := rd_h_re h2 (b1 47 (by omega) (by omega)) (b1 53 (by omega) (by omega)) (by rw [b2])
      have c3 : S3.1 (b + 1) 6 = Int32.ofNat c := by rw [b1 (b + 1) (by omega) (by omega)]; exact p3
      have g3 : ∀ p : Nat → Prop, nd_g (b + 1) p S2 S3 := fun p => nd_rows (fun a y1 y2 => b1 a (by omega) (by omega))
      rw [rd_r1 hX3 of_refl, if_pos (rd_t1 hX)]
      obtain ⟨x, S4, e4, r4⟩ := rd_ex hX3 24 (by decide) 200 (by decide) sc (i + 1 + 1) sc.length ms c S3 h3 c3 (by omega)
      have e4 : rc_Reader_takeE 200 43 0 0 S3 = some (x, S4) := e4
      rw [e4, wd_c_s, fo_setRoot, wd_d_s, fo_takeKind, wd_d_s]
      show ∃ S', _ ∧ rd_U K b S fs c ms (ps_b (ps_ex K V 24 sc (i + 1 + 1) sc.length) _) S'
      cases q3 : ps_ex K V 24 sc (i + 1 + 1) sc.length with
      | error e =>
        rw [q3] at r4
        have r4 : rd_bd b S3 e sc.length S4 := r4
        obtain ⟨f1, f2, f3⟩ := rd_f3_b (G := 60) (p := Int32.ofNat fs.length) (q := x) (g := fs.length + 1) hb r4 (by omega) (by rw [r4.1.1 b 3 (by unfold rd_W; omega), ← hS3, fr_eq]) (by omega)
        exact ⟨_, rfl, of_trans (rf_of h2.1) (of_trans o3 (of_trans (rf_of r4.1) f1)), f2⟩
      | ok q =>
        rw [q3] at r4
        obtain ⟨h4, c4, n4, y, rfl, u4, s4, l4, k4⟩ := r4
        obtain ⟨g1, g2, g3', g4, g5, g6, g7, -⟩ := ps_ex_good _ _ _ _ _ q3
        rw [ro_pn (L := 48) (by rcases hb with z | z <;> rw [z] <;> rfl) h48]
        generalize hS5 : wd_i S4 (b + 14 + 1) fs.length (Int32.ofNat y) = S5
        have o5 : of_f (rf_W b) S4 S5 := by
          rw [← hS5]
          exact of_i (by unfold rf_W; omega) of_refl
        have d1 : ∀ a, a ≠ b + 15 → S5.1 a = S4.1 a := fun a y1 => by rw [← hS5, fr_row _ (by omega)]
        have d2 : S5.2 = S4.2 := by rw [← hS5]; rfl
        have hX5 := rd_X_o (rd_X_o hX3 (rf_of h4.1)) o5
        have h5 := rd_h_re h4 (d1 47 (by omega)) (d1 53 (by omega)) (by rw [d2])
        have O5 : of_f (rf_W b) S S5 := of_trans (rf_of h2.1) (of_trans o3 (of_trans (rf_of h4.1) o5))
        have gR : ∀ p : Nat → Prop, nd_g (b + 1) p S4 S5 := fun p => nd_rows (fun a y1 y2 => d1 a (by omega))
        show ∃ S', _ ∧ rd_U K b S fs c ms (ps_b (ps_take K 18 q.2.2.2.1) _) S'
        cases q4 : ps_take K 18 q.2.2.2.1 with
        | error e =>
          have h6 := rd_tk_er hX5 h5 q4
          refine ⟨_, rfl, of_trans O5 (rf_of h6.1), sc.length, fs.length + 1, by omega, by omega, rd_bb h6, ?_⟩
          rw [h6.1.1 b 3 (by unfold rd_W; omega), d1 b (by omega), h4.1.1 b 3 (by unfold rd_W; omega), ← hS3, fr_eq]
        | ok i6 =>
          have h6 := rd_tk_ok hX5 h5 q4
          obtain ⟨j1, -, j2⟩ := rd_tk_out (k := 18) (S := S5)
          refine ⟨_, rfl, of_trans O5 (rf_of h6.1), ⟨q.2.2.2.2, sc, rd_rb h6⟩, ?_⟩
          refine rd_P_o (S := S5) (fun a y1 y2 => j1 a (by omega)) (fun j _ => by rw [j2]) ?_
          have e49 : S5.2.1 49 = S.2.1 49 := by
            funext m'
            rw [d2, h4.1.2.1 49 m' (by unfold rd_W; omega), b2, a2]
          have e17 : ∀ j, j ≠ fs.length → S5.1 (b + 17) j = S2.1 (b + 17) j := fun j hj => by
            rw [d1 _ (by omega), h4.1.1 (b + 17) j (by unfold rd_W; omega), ← hS3, fr_ne (by omega), fr_ne (by omega)]
          have e15 : ∀ j, j ≠ fs.length → S5.1 (b + 15) j = S2.1 (b + 15) j := fun j hj => by
            rw [← hS5, fr_ne (by omega), h4.1.1 (b + 15) j (by unfold rd_W; omega), b1 _ (by omega) (by omega)]
          have gN : nd_g (b + 1) (fun x => x < c) S2 S5 := nd_trans (g3 _) (nd_trans n4 (gR _))
          refine ⟨?_, ?_, ?_, fun j hj => ?_, ?_⟩
          · rw [d1 b (by omega), h4.1.1 b 3 (by unfold rd_W; omega), ← hS3, fr_eq, List.length_append]
            rfl
          · rw [List.length_append]
            exact h48
          · rw [d1 (b + 1) (by omega)]
            exact c4
          · have hj' : j < fs.length + 1 := by rw [List.length_append] at hj; exact hj
            by_cases hj2 : j < fs.length
            · rw [List.getElem_append_left hj2]
              obtain ⟨w1, w2, y', w3, w4, w5, w6⟩ := p4 j hj2
              obtain ⟨-, -, -, v4, v5, -⟩ := gN y' (nd_t_b w4).2
              refine ⟨?_, ?_, y', ?_, nd_t_r (Nat.le_refl _) (by omega) _ _ _ (nd_t_g (nd_mono (fun x hx => hx.2) gN) _ _ _ w4), v4.trans w5, v5.trans w6⟩
              · rw [e49, ← a2]; exact w1
              · rw [e17 j (by omega)]; exact w2
              · rw [e15 j (by omega)]; exact w3
            · have ej : j = fs.length := by omega
              subst ej
              rw [List.getElem_append_right (Nat.le_refl _)]
              simp only [Nat.sub_self, List.getElem_cons_zero]
              obtain ⟨-, -, -, v4, v5, -⟩ := gR (fun _ => True) y trivial
              refine ⟨?_, ?_, y, ?_, nd_t_r (Nat.zero_le _) (Nat.le_refl _) _ _ _ (nd_t_g (gR _) _ _ _ u4), v4.trans s4, v5.trans l4⟩
              · rw [e49]; exact hk
              · rw [d1 _ (by omega), h4.1.1 (b + 17) _ (by unfold rd_W; omega), ← hS3, fr_ne (by omega), fr_e (by omega)]
              · rw [← hS5, fr_e (by omega)]
          · rw [List.flatMap_append, ps_cl_a, nd_c_a]
            congr 1
            · rw [nd_c_g _ _ (nd_mono (fun x hx => by omega) gN)]
              exact p5
            · rw [Nat.zero_add, List.flatMap_singleton]
              rw [nd_c_g _ _ (gR _)]
              exact k4
end Rd9
end
/-! part 71 -/
section
/-! The class's reader takes a program. -/
section Rd10
variable {K : Nat → Int32} {V : Nat → Int64} {b : Nat} {S0 : wd_S} {i m : Nat} {sc : List (Int64 × Nat)} {ms : Int32} {S S' S1 : wd_S} {e : ps_E} {s : Nat} {k : Int32} {n c d : Nat} {a z u v : Int32} {self : ps_P} {x : Int64} {fs : List ps_F} {g G : Nat}
/-- behind the name -/
noncomputable def rd_f4 (S20 : wd_S) : Option wd_S := wd_d (fn_Reader_takeKind (15 : Int32) S20) fun S21 => if (S21.1 47 4) = (16 : Int32) then fn_Reader_takeFunction_124 S21 else wd_d (fn_Reader_takeParam S21) fun S45 => fn_Reader_takeFunction_92 wd_F (0 : Int32) S45
theorem rd_55_eq {l p q : Int32} : fn_Reader_takeFunction_55 l p q S = rd_f4 (wd_i (wd_i (lo_put 48 l (lo_at 9 (S.1 47 3) S) (fo_nn p q S)) 47 8 0) 47 11 0) := by
  unfold fn_Reader_takeFunction_55
  rw [fo_newName, wd_c_s, lo_put_ok, wd_d_s]
  rfl
theorem rd_f4_b (hX : rd_X K V b S) (h : rd_bd b S e 0 S) (hg : S.1 b 3 = Int32.ofNat g) (hg2 : g + 1 ≤ G) : ∃ S', rd_f4 S = some S' ∧ of_f (rf_W b) S S' ∧ rd_fb b G e S' ∧ S'.1 47 4 = 20 := by
  have hb := hX.1
  unfold rd_f4
  have h1 := rd_bd_tk (k := 15) h (by decide) (by decide)
  rw [fo_takeKind, wd_d_s, if_neg (rd_bd_ne h1 (by decide) (by decide))]
  obtain ⟨S2, e2, h2⟩ := rd_par_b h1 (by decide)
  rw [e2, wd_d_s, show wd_F = 999999 + 1 from rfl, rd_92_b h2]
  obtain ⟨S', e1, f1, f2, f3⟩ := rd_124_b (rd_X_o hX (rf_of h2.1)) (rd_bb h2) (by decide) (show S2.1 b 3 = Int32.ofNat g by rw [h2.1.1 b 3 (by unfold rd_W; omega)]; exact hg) hg2
  exact ⟨S', e1, of_trans (rf_of h2.1) f1, f2, f3⟩
/-- the name is kept, nothing is told of the function yet -/
theorem rd_f4_s (hX : rd_X K V b S) (ho : of_f (rd_W b) S S1) {l : Int32} {y : Int64} : of_f (rf_W b) S (wd_i (wd_i (lo_put 48 l y S1) 47 8 0) 47 11 0) ∧ rd_X K V b (wd_i (wd_i (lo_put 48 l y S1) 47 8 0) 47 11 0) := by
  have o : of_f (rf_W b) S (wd_i (wd_i (lo_put 48 l y S1) 47 8 0) 47 11 0) := of_i (by unfold rf_W; omega) (of_i (by unfold rf_W; omega) (of_lput (fun k => by unfold rf_W; omega) (rf_of ho)))
  exact ⟨o, rd_X_o hX o⟩
theorem rd_f4_bs {l : Int32} {y : Int64} (h : rd_bd b S0 e s S1) : rd_bd b (wd_i (wd_i (lo_put 48 l y S1) 47 8 0) 47 11 0) e 0 (wd_i (wd_i (lo_put 48 l y S1) 47 8 0) 47 11 0) := by
  obtain ⟨-, a2, a3, a4⟩ := h
  refine ⟨of_refl, fr_eq, a3, ?_⟩
  rw [fr_ne (by omega), fr_ne (by omega), fr_ne (by omega), fr_ne (by omega), fr_ne (by omega), fr_ne (by omega), fr_ne (by omega), fr_ne (by omega), fr_q2]
  exact a4
theorem rd_fun_b (hX : rd_X K V b S) (h : rd_fb b 60 e S) : ∃ S', fn_Reader_takeFunction S = some S' ∧ of_f (rf_W b) S S' ∧ rd_fb b 61 e S' ∧ S'.1 47 4 = 20 := by
  obtain ⟨s, g, hs, hg, h1, h2⟩ := h
  have hb := hX.1
  have h55 : ∀ l p q, ∃ S', fn_Reader_takeFunction_55 l p q S = some S' ∧ of_f (rf_W b) S S' ∧ rd_fb b 61 e S' ∧ S'.1 47 4 = 20 := by
    intro l p q
    rw [rd_55_eq]
    have h3 := rd_bd_nn (p := p) (q := q) h1
    obtain ⟨o3, hX3⟩ := rd_f4_s (l := l) (y := lo_at 9 (S.1 47 3) S) hX h3.1
    obtain ⟨S', e1, f1, f2, f3⟩ := rd_f4_b (G := 61) hX3 (rd_f4_bs h3) (g := g) (by rw [fr_ne (by omega), fr_ne (by omega), fr_q2, h3.1.1 b 3 (by unfold rd_W; omega)]; exact h2) (by omega)
    exact ⟨S', e1, of_trans o3 f1, f2, f3⟩
  obtain ⟨w, w1, -⟩ := fo_lastOf (r := 48) (x := lo_at 9 (S.1 47 3) S) (S := S) g wd_F (by omega) (by rw [show wd_F = 1000000 from rfl]; omega)
  have w1 : fn_LongRow_lastOf 48 (lo_at 9 (S.1 47 3) S) (Int32.ofNat g) S = some (w, S) := w1
  unfold fn_Reader_takeFunction fn_Reader_takeFunction_36 fn_Bodies_count
  rw [rd_r1 hX of_refl, if_pos (rd_t1 hX), wd_c_s, fo_value, wd_c_s, h2, w1, wd_c_s]
  split
  · split
    · exact h55 _ _ _
    · exact h55 _ _ _
  · split
    · exact h55 _ _ _
    · exact h55 _ _ _
theorem rd_f4_g (hX : rd_X K V b S) {o : Nat} (h : rd_h K b S i 0 [] ms S) (hP : rd_P b fs c S) (hc : c ≤ i) (h48 : fs.length < 48) (hk : S.2.1 49 fs.length = V o) : ∃ S', rd_f4 S = some S' ∧ rd_U K b S fs c ms (ps_b (ps_b (ps_take K 15 i) fun i2 => if K i2 = 16 then .ok ([], i2) else ps_b (ps_par K V [] i2) fun q => ps_pars K V 1500 q.1 q.2) (ps_body K V o)) S' := by
  have hb := hX.1
  unfold rd_f4
  rw [fo_takeKind, wd_d_s]
  cases q1 : ps_take K 15 i with
  | error e =>
    have h1 := rd_tk_er hX h q1
    rw [if_neg (rd_bd_ne h1 (by decide) (by decide))]
    obtain ⟨S2, e2, h2⟩ := rd_par_b h1 (by decide)
    rw [e2, wd_d_s, show wd_F = 999999 + 1 from rfl, rd_92_b h2]
    obtain ⟨S', e1, f1, f2, f3⟩ := rd_124_b (G := 60) (rd_X_o hX (rf_of h2.1)) (rd_bb h2) (by decide) (show S2.1 b 3 = Int32.ofNat fs.length by rw [h2.1.1 b 3 (by unfold rd_W; omega)]; exact hP.1) (by omega)
    exact ⟨S', e1, of_trans (rf_of h2.1) f1, f2⟩
  | ok i2 =>
    obtain ⟨t1, t2, rfl, t4⟩ := ps_take_ok q1
    have h1 := rd_tk_ok hX h q1
    obtain ⟨a1, -, a2⟩ := rd_tk_out (k := 15) (S := S)
    generalize fo_tk 15 S = S1 at h1 a1 a2 ⊢
    have hX1 := rd_X_o hX (rf_of h1.1)
    rw [h1.2.2.2.2.1]
    show ∃ S', _ ∧ rd_U K b S fs c ms (ps_b (if K (i + 1) = 16 then .ok ([], i + 1) else _) _) S'
    by_cases hk16 : K (i + 1) = 16
    · rw [if_pos hk16, if_pos hk16]
      obtain ⟨S', e1, f1, f2⟩ := rd_124 (o := o) (c := c) (fs := fs) (sc := []) hX1 (rd_rb h1) (rd_P_o (fun a y1 y2 => a1 a (by omega)) (fun j _ => by rw [a2]) hP) (by omega) h48 (by rw [a2]; exact hk)
      exact ⟨S', e1, of_trans (rf_of h1.1) f1, f2⟩
    · rw [if_neg hk16, if_neg hk16]
      obtain ⟨S2, e2, r2⟩ := rd_param hX h1 rfl (by decide)
      rw [e2, wd_d_s]
      show ∃ S', _ ∧ rd_U K b S fs c ms (ps_b (ps_b (ps_par K V [] (i + 1)) _) _) S'
      cases q2 : ps_par K V [] (i + 1) with
      | error e =>
        rw [q2] at r2
        obtain ⟨s, hs, r2⟩ := r2
        rw [show wd_F = 999999 + 1 from rfl, rd_92_b r2]
        obtain ⟨S', e1, f1, f2, f3⟩ := rd_124_b (G := 60) (rd_X_o hX (rf_of r2.1)) (rd_bb r2) (by omega) (show S2.1 b 3 = Int32.ofNat fs.length by rw [r2.1.1 b 3 (by unfold rd_W; omega)]; exact hP.1) (by omega)
        exact ⟨S', e1, of_trans (rf_of r2.1) f1, f2⟩
      | ok q =>
        rw [q2] at r2
        obtain ⟨p1, p2, rfl, p4, p5, p6⟩ := ps_par_ok q2
        obtain ⟨h2, b1, b2⟩ := r2
        obtain ⟨S3, e3, r3⟩ := rd_pars hX 1500 wd_F (i + 1 + 1) [(V (i + 1), 0)] 0 S2 rfl (by decide) h2 (show 1 ≤ 4 by decide)
        have e3 : fn_Reader_takeFunction_92 wd_F 0 S2 = fn_Reader_takeFunction_124 S3 := e3
        rw [e3]
        show ∃ S', _ ∧ rd_U K b S fs c ms (ps_b (ps_pars K V 1500 [(V (i + 1), 0)] (i + 1 + 1)) _) S'
        cases q3 : ps_pars K V 1500 [(V (i + 1), 0)] (i + 1 + 1) with
        | error e =>
          rw [q3] at r3
          obtain ⟨s, hs, r3⟩ := r3
          obtain ⟨S', e1, f1, f2, f3⟩ := rd_124_b (G := 60) (rd_X_o hX (rf_of r3.1)) (rd_bb r3) (by omega) (show S3.1 b 3 = Int32.ofNat fs.length by rw [r3.1.1 b 3 (by unfold rd_W; omega)]; exact hP.1) (by omega)
          exact ⟨S', e1, of_trans (rf_of r3.1) f1, f2⟩
        | ok w =>
          rw [q3] at r3
          obtain ⟨w1, w2⟩ := w
          obtain ⟨h3, d1, d2⟩ := r3
          have h3 : rd_h K b S w2 w1.length w1 ms S3 := h3
          obtain ⟨v1, v2, v3, v4, v5⟩ := ps_pars_ok _ _ _ _ q3 p2 p4 ⟨rfl, trivial⟩ (show 1 ≤ 4 by decide)
          have v1 : i + 1 + 1 ≤ w2 := v1
          have eA : ∀ a, a ≠ 47 → a ≠ 53 → S3.1 a = S.1 a := fun a y1 y2 => by rw [d1 a y1 y2, b1 a y1 y2, a1 a y1]
          have eB : S3.2.1 49 = S.2.1 49 := by rw [d2 49 (by decide), b2 49 (by decide), a2]
          obtain ⟨S', e1, f1, f2⟩ := rd_124 (o := o) (c := c) (fs := fs) (sc := w1) (rd_X_o hX (rf_of h3.1)) (rd_rb h3) (rd_P_o (fun a y1 y2 => eA a (by omega) (by omega)) (fun j _ => by rw [eB]) hP) (by omega) h48 (by rw [eB]; exact hk)
          exact ⟨S', e1, of_trans (rf_of h3.1) f1, f2⟩
/-- the same with nothing known of names -/
def rd_w (K : Nat → Int32) (b : Nat) (S0 : wd_S) (i : Nat) (ms : Int32) (S : wd_S) : Prop := of_f (rd_W b) S0 S ∧ i ≤ 1500 ∧ ¬K i = 19 ∧ S.1 47 3 = Int32.ofNat i ∧ S.1 47 4 = K i ∧ S.1 47 5 = 0 ∧ S.1 47 12 = ms
theorem rd_hw (h : rd_h K b S0 i m sc ms S) : rd_w K b S0 i ms S := ⟨h.1, h.2.1, h.2.2.1, h.2.2.2.1, h.2.2.2.2.1, h.2.2.2.2.2.1, h.2.2.2.2.2.2.2.2.2.2.2⟩
theorem im_any (x : Int32) : ∃ s, x = Int32.ofNat s := ⟨x.toBitVec.toNat, by
  rw [← Int32.toBitVec_inj]
  show x.toBitVec = BitVec.ofNat 32 x.toBitVec.toNat
  rw [BitVec.ofNat_toNat, BitVec.setWidth_eq]⟩
theorem rd_faultw (h : rd_w K b S0 i ms S) {x : Int32} (hx : ¬x = 0) : ∃ s, rd_bd b S0 (x, i) s (fo_fa x (S.1 47 3) S) := by
  obtain ⟨a1, a2, a3, a4, a5, a6, a12⟩ := h
  obtain ⟨s, hs⟩ := im_any (S.1 47 11)
  rw [rd_fa0 a6, a4]
  refine ⟨s, of_i (Or.inl rfl) (of_i (Or.inl rfl) (of_i (Or.inl rfl) a1)), ?_, ⟨hx, a2⟩, Or.inl ⟨?_, ?_, fr_eq⟩⟩
  · rw [fr_ne (by omega), fr_ne (by omega), fr_ne (by omega)]; exact hs
  · rw [fr_ne (by omega), fr_ne (by omega), fr_eq]
  · rw [fr_ne (by omega), fr_eq]
theorem rd_tkw_ok (hX : rd_X K V b S0) (h : rd_w K b S0 i ms S) {j : Nat} (q : ps_take K k i = .ok j) : rd_w K b S0 j ms (fo_tk k S) := by
  obtain ⟨q1, q2, rfl, q4⟩ := ps_take_ok q
  obtain ⟨h1, h2, h3⟩ := rd_tk_out (k := k) (S := S)
  have hb := hX.1
  obtain ⟨a1, a2, a3, a4, a5, a6, a12⟩ := h
  have e : fo_tk k S = wd_i (wd_i S 47 3 (Int32.ofNat (i + 1))) 47 4 (K (i + 1)) := by
    unfold fo_tk
    rw [a5, if_pos q1, a4, if_pos ((mo_lt (m := 1500) (b := 1500) (by omega) (by omega) rfl).mpr q2), im_s, rd_kind hX a1 (by omega)]
  refine ⟨rd_of47 h1 h3 a1, by omega, q4, ?_, ?_, ?_, ?_⟩
  · rw [e, fr_ne (by omega), fr_eq]
  · rw [e, fr_eq]
  · rw [e, fr_ne (by omega), fr_ne (by omega)]; exact a6
  · rw [h2 12 (by omega) (by omega) (by omega) (by omega)]; exact a12
theorem rd_tkw_er (hX : rd_X K V b S0) (h : rd_w K b S0 i ms S) (q : ps_take K k i = .error e) : ∃ s, rd_bd b S0 e s (fo_tk k S) := by
  have h0 := h
  obtain ⟨a1, a2, a3, a4, a5, a6, a12⟩ := h
  obtain ⟨s, hs⟩ := im_any (S.1 47 11)
  unfold ps_take at q
  unfold fo_tk
  rw [a5]
  by_cases q1 : K i = k
  · rw [if_pos q1] at q ⊢
    by_cases q2 : i < 1500
    · rw [if_pos q2] at q
      rw [a4, if_pos ((mo_lt (m := 1500) (b := 1500) (by omega) (by omega) rfl).mpr q2), im_s, rd_kind hX a1 (by omega)]
      by_cases q3 : K (i + 1) = 19
      · rw [if_pos q3] at q
        cases q
        refine ⟨s, of_i (Or.inl rfl) (of_i (Or.inl rfl) a1), ?_, ⟨(show ¬(1 : Int32) = 0 by decide), (show i + 1 ≤ 1500 by omega)⟩, Or.inr ⟨?_, ?_, ?_, rfl⟩⟩
        · rw [fr_ne (by omega), fr_ne (by omega)]; exact hs
        · rw [fr_ne (by omega), fr_ne (by omega)]; exact a6
        · rw [fr_eq]; exact q3
        · rw [fr_ne (by omega), fr_eq]
      · rw [if_neg q3] at q
        cases q
    · rw [if_neg q2] at q
      cases q
      rw [if_neg (fun z => q2 (by rw [a4] at z; exact (mo_lt (m := 1500) (b := 1500) (by omega) (by omega) rfl).mp z))]
      exact rd_faultw h0 (by decide)
  · rw [if_neg q1] at q ⊢
    cases q
    unfold fo_rf
    rw [if_neg (by rw [a5]; exact a3)]
    exact rd_faultw h0 (by decide)
theorem rd_nnw_ok (hX : rd_X K V b S0) (h : rd_w K b S0 i ms S) {p q : Int32} {x y : Bool} {j : Nat} (hp : p = 0 ↔ x = false) (hq : q = 0 ↔ y = false) (r : ps_new K x y i = .ok j) : rd_w K b S0 j ms (fo_nn p q S) := by
  obtain ⟨r1, r2, r3⟩ := ps_new_ok r
  unfold fo_nn
  rw [if_pos (hp.mpr r2), if_pos (hq.mpr r3), ite_self]
  exact rd_tkw_ok hX h r1
theorem rd_nnw_er (hX : rd_X K V b S0) (h : rd_w K b S0 i ms S) {p q : Int32} {x y : Bool} (hp : p = 0 ↔ x = false) (hq : q = 0 ↔ y = false) (r : ps_new K x y i = .error e) : ∃ s, rd_bd b S0 e s (fo_nn p q S) := by
  unfold ps_new at r
  unfold fo_nn
  rw [h.2.2.2.2.1]
  by_cases hk : K i = 2
  · rw [if_pos hk]
    cases hx : x with
    | true =>
      rw [if_pos ⟨hk, hx⟩] at r
      cases r
      rw [if_neg (fun q => by have := hp.mp q; rw [hx] at this; cases this)]
      obtain ⟨s, hs⟩ := rd_faultw h (x := 3) (by decide)
      exact ⟨s, rd_bd_tk hs (by decide) (by decide)⟩
    | false =>
      rw [if_neg (fun q => by rw [hx] at q; cases q.2)] at r
      rw [if_pos (hp.mpr hx)]
      cases hy : y with
      | true =>
        rw [if_pos ⟨hk, hy⟩] at r
        cases r
        rw [if_neg (fun q => by have := hq.mp q; rw [hy] at this; cases this)]
        obtain ⟨s, hs⟩ := rd_faultw h (x := 6) (by decide)
        exact ⟨s, rd_bd_tk hs (by decide) (by decide)⟩
      | false =>
        rw [if_neg (fun q => by rw [hy] at q; cases q.2)] at r
        rw [if_pos (hq.mpr hy)]
        exact rd_tkw_er hX h r
  · rw [if_neg hk]
    rw [if_neg (fun q => hk q.1), if_neg (fun q => hk q.1)] at r
    exact rd_tkw_er hX h r
theorem rd_fun (hX : rd_X K V b S) (h : rd_w K b S i ms S) (hP : rd_P b fs c S) (hc : c ≤ i) : ∃ S', fn_Reader_takeFunction S = some S' ∧ rd_U K b S fs c ms (ps_fun K V (fs.map (fun q => q.1)) i) S' := by
  have hb := hX.1
  have hi := h.2.1
  have h48 := hP.2.1
  obtain ⟨w, w1, w2⟩ := fo_lastOf (r := 48) (x := lo_at 9 (Int32.ofNat i) S) (S := S) fs.length wd_F (by omega) (by rw [show wd_F = 1000000 from rfl]; omega)
  have w1 : fn_LongRow_lastOf 48 (lo_at 9 (Int32.ofNat i) S) (Int32.ofNat fs.length) S = some (w, S) := w1
  have hkey : ∀ j, (hj : j < fs.length) → lo_at 48 (Int32.ofNat j) S = fs[j].1 := fun j hj => by
    rw [lo_an (L := 48) rfl (by omega)]
    exact (hP.2.2.2.1 j hj).1
  obtain ⟨p, q, hp, hq, hcode⟩ : ∃ p q : Int32, (p = 0 ↔ decide (lo_at 9 (Int32.ofNat i) S ∈ fs.map (fun q => q.1)) = false) ∧ (q = 0 ↔ decide (48 ≤ (fs.map (fun q => q.1)).length) = false) ∧ fn_Reader_takeFunction S = fn_Reader_takeFunction_55 (Int32.ofNat fs.length) p q S := by
    have hq : ∃ q : Int32, (q = 0 ↔ decide (48 ≤ (fs.map (fun q => q.1)).length) = false) ∧ ∀ p, fn_Reader_takeFunction_36 (Int32.ofNat fs.length) p S = fn_Reader_takeFunction_55 (Int32.ofNat fs.length) p q S := by
      unfold fn_Reader_takeFunction_36
      rw [List.length_map]
      by_cases hm : fs.length < 48
      · exact ⟨0, ⟨fun _ => decide_eq_false (by omega), fun _ => rfl⟩, fun p => if_pos ((mo_lt (m := 48) (b := 48) (by omega) (by omega) rfl).mpr hm)⟩
      · exact ⟨1, ⟨fun q => absurd q (by decide), fun q => absurd (of_decide_eq_false q) (by omega)⟩, fun p => if_neg (fun q => hm ((mo_lt (m := 48) (b := 48) (by omega) (by omega) rfl).mp q))⟩
    obtain ⟨q, hq, hq2⟩ := hq
    unfold fn_Reader_takeFunction fn_Bodies_count
    rw [rd_r1 hX of_refl, if_pos (rd_t1 hX), wd_c_s, fo_value, wd_c_s, h.2.2.2.1, hP.1, w1, wd_c_s, hq2, hq2]
    rcases w2 with ⟨rfl, w3⟩ | ⟨j, hj, rfl, w3, w4⟩
    · refine ⟨0, q, ⟨fun _ => decide_eq_false (fun z => ?_), fun _ => rfl⟩, hq, if_pos rfl⟩
      obtain ⟨f, hf, hf2⟩ := List.mem_map.mp z
      obtain ⟨j, hj, rfl⟩ := List.getElem_of_mem hf
      exact w3 j hj (sm_eq.mpr ((hkey j hj).trans hf2))
    · refine ⟨1, q, ⟨fun z => absurd z (by decide), fun z => absurd (List.mem_map.mpr ⟨fs[j], List.getElem_mem hj, ?_⟩) (of_decide_eq_false z)⟩, hq, if_neg (fun z => ?_)⟩
      · rw [← hkey j hj]
        exact sm_eq.mp w3
      · have := congrArg Int32.toInt z
        rw [im_i (by omega)] at this
        exact absurd this (by show ¬(j : Int) = -1; omega)
  have en : ps_new K (decide (lo_at 9 (Int32.ofNat i) S ∈ fs.map (fun q => q.1))) (decide (48 ≤ (fs.map (fun q => q.1)).length)) i = ps_new K (decide (V i ∈ fs.map (fun q => q.1))) (decide (48 ≤ (fs.map (fun q => q.1)).length)) i := by
    by_cases hk : K i = 2
    · rw [rd_val hX h.1 hi (Or.inr hk)]
    · exact ps_new_ne hk
  rw [hcode, rd_55_eq]
  unfold ps_fun ps_head
  rw [← en]
  obtain ⟨f1, f2⟩ := rd_nn_out (p := p) (q := q) (S := S)
  cases q1 : ps_new K (decide (lo_at 9 (Int32.ofNat i) S ∈ fs.map (fun q => q.1))) (decide (48 ≤ (fs.map (fun q => q.1)).length)) i with
  | error e =>
    obtain ⟨s, h1⟩ := rd_nnw_er hX h hp hq q1
    obtain ⟨o3, hX3⟩ := rd_f4_s (l := Int32.ofNat fs.length) (y := lo_at 9 (S.1 47 3) S) hX h1.1
    obtain ⟨S', e1, g1, g2, g3⟩ := rd_f4_b (G := 60) hX3 (rd_f4_bs h1) (g := fs.length) (by rw [fr_ne (by omega), fr_ne (by omega), fr_q2, h1.1.1 b 3 (by unfold rd_W; omega)]; exact hP.1) (by omega)
    exact ⟨S', e1, of_trans o3 g1, g2⟩
  | ok j =>
    have h1 := rd_nnw_ok hX h hp hq q1
    obtain ⟨q2, -, qm⟩ := ps_new_ok q1
    have qm := of_decide_eq_false qm
    rw [List.length_map] at qm
    obtain ⟨t1, t2, rfl, t4⟩ := ps_take_ok q2
    obtain ⟨o3, hX3⟩ := rd_f4_s (l := Int32.ofNat fs.length) (y := lo_at 9 (S.1 47 3) S) hX h1.1
    rw [h.2.2.2.1, rd_val hX h.1 hi (Or.inr t1)] at o3 hX3 ⊢
    rw [lo_pn (L := 48) rfl (by omega)] at o3 hX3 ⊢
    generalize hS4 : wd_i (wd_i (wd_l (fo_nn p q S) (48 + 1) fs.length (V i)) 47 8 0) 47 11 0 = S4 at o3 hX3 ⊢
    have eA : ∀ a, a ≠ 47 → S4.1 a = S.1 a := fun a ha => by rw [← hS4, fr_row _ ha, fr_row _ ha, fr_l2, f1 a ha]
    have h4 : rd_h K b S4 (i + 1) 0 [] ms S4 := by
      obtain ⟨a1, a2, a3, a4, a5, a6, a12⟩ := h1
      refine ⟨of_refl, a2, a3, ?_, ?_, ?_, ?_, by decide, ?_, Nat.le_refl _, trivial, ?_⟩
      · rw [← hS4, fr_ne (by omega), fr_ne (by omega), fr_l2]; exact a4
      · rw [← hS4, fr_ne (by omega), fr_ne (by omega), fr_l2]; exact a5
      · rw [← hS4, fr_ne (by omega), fr_ne (by omega), fr_l2]; exact a6
      · rw [← hS4, fr_ne (by omega), fr_eq]; rfl
      · rw [← hS4, fr_eq]; rfl
      · rw [← hS4, fr_ne (by omega), fr_ne (by omega), fr_l2]; exact a12
    have e49 : ∀ j, S4.2.1 49 j = if j = fs.length then V i else S.2.1 49 j := fun j => by
      rw [← hS4]
      show (wd_l (fo_nn p q S) 49 fs.length (V i)).2.1 49 j = _
      rw [fr_l1, f2]
      by_cases hj : j = fs.length
      · rw [if_pos ⟨rfl, hj⟩, if_pos hj]
      · rw [if_neg (fun z => hj z.2), if_neg hj]
    obtain ⟨S', e1, g1, g2⟩ := rd_f4_g (o := i) (c := c) (fs := fs) hX3 h4 (rd_P_o (fun a y1 y2 => eA a (by omega)) (fun j hj => by rw [e49, if_neg (by omega)]) hP) (by omega) (by omega) (by rw [e49, if_pos rfl])
    exact ⟨S', e1, of_trans o3 g1, g2⟩
end Rd10
end
/-! part 72 -/
section
/-! The class's reader takes a whole program, up to what is to be looked up. -/
section Rd11
variable {K : Nat → Int32} {V : Nat → Int64} {b : Nat} {S0 : wd_S} {i m : Nat} {sc : List (Int64 × Nat)} {ms : Int32} {S S' S1 : wd_S} {e : ps_E} {s : Nat} {k : Int32} {n c d : Nat} {fs : List ps_F} {g G : Nat}
def ps_M (fs : List ps_F) : List (Nat × Nat) := fs.flatMap (fun q => q.2.2.2.1)
/-- a program, and a fault, once all is taken -/
def rd_D (b : Nat) (S : wd_S) (r : Except ps_E (List ps_F)) (S' : wd_S) : Prop := of_f (rf_W b) S S' ∧ match r with
  | .error e => (¬e.1 = 0 ∧ e.2 ≤ 1500) ∧ S'.1 47 5 = e.1 ∧ S'.1 47 6 = Int32.ofNat e.2
  | .ok fs => S'.1 47 5 = 0 ∧ S'.1 47 12 = rd_ms (-1) (ps_M fs) ∧ ∃ c, c ≤ 1500 ∧ rd_P b fs c S'
theorem rd_53_20 {F : Nat} {l : Int32} (h : S.1 47 4 = 20) : fn_Reader_take_53 (F + 1) l S = fn_Reader_take_79 S := by
  rw [fn_Reader_take_53, if_pos h, ite_self]
theorem rd_bd_20 (h : rd_bd b S0 e s S) (h4 : S.1 47 4 = 20) : (¬e.1 = 0 ∧ e.2 ≤ 1500) ∧ S.1 47 5 = e.1 ∧ S.1 47 6 = Int32.ofNat e.2 := by
  obtain ⟨-, -, a3, a4⟩ := h
  rcases a4 with ⟨c1, c2, -⟩ | ⟨-, c2, -⟩
  · exact ⟨a3, c1, c2⟩
  · rw [h4] at c2
    exact absurd c2 (by decide)
/-- from a fault on -/
theorem rd_53_b (hX : rd_X K V b S) (h : rd_fb b 60 e S) {F l : Nat} (hl : l < 1500) : ∃ S', fn_Reader_take_53 (F + 2) (Int32.ofNat l) S = fn_Reader_take_79 S' ∧ of_f (rf_W b) S S' ∧ (¬e.1 = 0 ∧ e.2 ≤ 1500) ∧ S'.1 47 5 = e.1 ∧ S'.1 47 6 = Int32.ofNat e.2 := by
  by_cases h4 : S.1 47 4 = 20
  · obtain ⟨s, g, hs, hg, h1, h2⟩ := h
    exact ⟨S, rd_53_20 h4, of_refl, rd_bd_20 h1 h4⟩
  · obtain ⟨S2, e2, o2, ⟨s, g, hs, hg, h1, h2⟩, h20⟩ := rd_fun_b hX h
    rw [fn_Reader_take_53, if_pos ((mo_lt (m := 1500) (b := 1500) (by omega) (by omega) rfl).mpr hl), if_neg h4, e2, wd_d_s, rd_53_20 h20]
    exact ⟨S2, rfl, o2, rd_bd_20 h1 h20⟩
theorem rd_funs : ∀ (f F i l c : Nat) (fs : List ps_F) (S : wd_S), l + f = 1500 → f + 1 < F → rd_X K V b S → rd_w K b S i (rd_ms (-1) (ps_M fs)) S → rd_P b fs c S → c ≤ i → 6 * l + 6 ≤ i → ∃ S', fn_Reader_take_53 F (Int32.ofNat l) S = fn_Reader_take_79 S' ∧ rd_D b S (ps_funs K V f fs i) S' := by
  intro f
  induction f with
  | zero =>
    intro F i l c fs S hl hF hX h hP hc h6
    have := h.2.1
    omega
  | succ f ih =>
    intro F i l c fs S hl hF hX h hP hc h6
    have hi := h.2.1
    obtain ⟨F, rfl⟩ : ∃ z, F = z + 1 := ⟨F - 1, by omega⟩
    unfold ps_funs
    by_cases hk : K i = 20
    · rw [if_pos hk, rd_53_20 (h.2.2.2.2.1.trans hk)]
      exact ⟨S, rfl, of_refl, h.2.2.2.2.2.1, h.2.2.2.2.2.2, c, by omega, hP⟩
    · rw [if_neg hk, fn_Reader_take_53, if_pos ((mo_lt (m := 1500) (b := 1500) (by omega) (by omega) rfl).mpr (by omega)), if_neg (by rw [h.2.2.2.2.1]; exact hk)]
      obtain ⟨S2, e2, o2, r2⟩ := rd_fun hX h hP hc
      rw [e2, wd_d_s, im_s]
      cases q1 : ps_fun K V (fs.map (fun q => q.1)) i with
      | error e =>
        rw [q1] at r2
        obtain ⟨F, rfl⟩ : ∃ z, F = z + 2 := ⟨F - 2, by omega⟩
        obtain ⟨S3, e3, o3, r3⟩ := rd_53_b (l := l + 1) (F := F) (rd_X_o hX o2) r2 (by omega)
        exact ⟨S3, e3, of_trans o2 o3, r3⟩
      | ok q =>
        rw [q1] at r2
        obtain ⟨⟨m, sc, h3⟩, hP3⟩ := r2
        obtain ⟨⟨w1, w2, w3, w4, w5, w6, w7, w8, -⟩, -⟩ := ps_fun_ok q1
        have hM : ps_M (fs ++ [q.1]) = ps_M fs ++ q.1.2.2.2.1 := by
          unfold ps_M
          rw [List.flatMap_append, List.flatMap_singleton]
        obtain ⟨S3, e3, o3, r3⟩ := ih F q.2 (l + 1) (c + q.1.2.2.2.2.1) (fs ++ [q.1]) S2 (by omega) (by omega) (rd_X_o hX o2) (by rw [hM, rd_ms_a]; exact rd_hw h3) hP3 (by omega) (by omega)
        exact ⟨S3, e3, of_trans o2 o3, r3⟩
/-- what take lays first -/
noncomputable def rd_s (b : Nat) (k : Int32) (S : wd_S) : wd_S := wd_i (wd_i (wd_i (wd_i (wd_i (wd_i (wd_r (wd_r S 47 1 b) 47 2 (b + 1)) (b + 1) 6 0) b 3 0) 47 3 0) 47 4 k) 47 5 0) 47 12 (-1)
theorem rd_take_eq (hb : b = 11 ∨ b = 29) (hk : (if Int32.ofNat 0 < S.1 4 5 then ro_at 5 (Int32.ofNat 0) S else 20) = k) : fn_Reader_take b S = wd_d (fn_Reader_takeFunction (rd_s b k S)) fun S18 => fn_Reader_take_53 wd_F 0 S18 := by
  have t1 : tp_t b = (0, 0) := by rcases hb with h | h <;> rw [h] <;> rfl
  have t2 : tp_t (b + 1) = (0, 8) := by rcases hb with h | h <;> rw [h] <;> rfl
  have r1 : ∀ S : wd_S, (wd_r (wd_r S 47 1 b) 47 2 (b + 1)).2.2.1 47 1 = b := fun S => by rw [fr_r1, if_neg (by omega), fr_r1, if_pos ⟨rfl, rfl⟩]
  unfold fn_Reader_take fn_Bodies_trees fn_Bodies_clear fn_Trees_clear rd_s
  simp only [wd_b, wd_c_s, wd_d_s]
  rw [if_pos t2, r1, if_pos t1, fo_kind, wd_c_s]
  rw [fr_ne (show ¬(4 = 47 ∧ 5 = 3) by omega), fr_ne (by omega), fr_ne (by omega), fr_r2, fr_r2]
  have e6 : ∀ v : Int32, ro_at 5 0 (wd_i (wd_i (wd_i (wd_r (wd_r S 47 1 b) 47 2 (b + 1)) (b + 1) 6 0) b 3 0) 47 3 v) = ro_at 5 0 S := fun v => fr_at 5 0 (by rw [fr_row _ (by omega), fr_row _ (by omega), fr_row _ (by omega), fr_r2, fr_r2])
  rw [e6]
  have hk : (if (0 : Int32) < S.1 4 5 then ro_at 5 0 S else 20) = k := hk
  rw [hk]
theorem rd_take (hb : b = 11 ∨ b = 29) (hK : ∀ i, i ≤ 1500 → (if Int32.ofNat i < S.1 4 5 then ro_at 5 (Int32.ofNat i) S else 20) = K i) (hV : ∀ i, i ≤ 1500 → K i = 1 ∨ K i = 2 → lo_at 9 (Int32.ofNat i) S = V i) : ∃ S', fn_Reader_take b S = fn_Reader_take_79 S' ∧ rd_D b (rd_s b (K 0) S) (ps_prog K V) S' := by
  rw [rd_take_eq hb (hK 0 (by decide))]
  have hA : ∀ a, a ≠ 47 → a ≠ b → a ≠ b + 1 → (rd_s b (K 0) S).1 a = S.1 a := fun a y1 y2 y3 => by
    unfold rd_s
    rw [fr_row _ y1, fr_row _ y1, fr_row _ y1, fr_row _ y1, fr_row _ y2, fr_row _ y3, fr_r2, fr_r2]
  have hX : rd_X K V b (rd_s b (K 0) S) := by
    refine ⟨hb, ?_, ?_, fun i hi => ?_, fun i hi hk => ?_⟩
    · show (wd_r (wd_r S 47 1 b) 47 2 (b + 1)).2.2.1 47 1 = b
      rw [fr_r1, if_neg (by omega), fr_r1, if_pos ⟨rfl, rfl⟩]
    · show (wd_r (wd_r S 47 1 b) 47 2 (b + 1)).2.2.1 47 2 = b + 1
      rw [fr_r1, if_pos ⟨rfl, rfl⟩]
    · rw [hA 4 (by omega) (by omega) (by omega), fr_at 5 _ (hA 6 (by omega) (by omega) (by omega))]
      exact hK i hi
    · rw [fr_lat (S := S) (S' := rd_s b (K 0) S) 9 _ rfl]
      exact hV i hi hk
  have e3 : (rd_s b (K 0) S).1 47 3 = Int32.ofNat 0 := by
    unfold rd_s
    rw [fr_ne (by omega), fr_ne (by omega), fr_ne (by omega), fr_eq]
    rfl
  have e4 : (rd_s b (K 0) S).1 47 4 = K 0 := by
    unfold rd_s
    rw [fr_ne (by omega), fr_ne (by omega), fr_eq]
  have e5 : (rd_s b (K 0) S).1 47 5 = 0 := by
    unfold rd_s
    rw [fr_ne (by omega), fr_eq]
  have e12 : (rd_s b (K 0) S).1 47 12 = -1 := by
    unfold rd_s
    rw [fr_eq]
  have eb : (rd_s b (K 0) S).1 b 3 = Int32.ofNat 0 := by
    unfold rd_s
    rw [fr_ne (by omega), fr_ne (by omega), fr_ne (by omega), fr_ne (by omega), fr_eq]
    rfl
  have ec : (rd_s b (K 0) S).1 (b + 1) 6 = Int32.ofNat 0 := by
    unfold rd_s
    rw [fr_ne (by omega), fr_ne (by omega), fr_ne (by omega), fr_ne (by omega), fr_ne (by omega), fr_eq]
    rfl
  generalize rd_s b (K 0) S = S1 at hX e3 e4 e5 e12 eb ec ⊢
  unfold ps_prog
  by_cases h19 : K 0 = 19
  · rw [if_pos h19]
    obtain ⟨s, hs⟩ := im_any (S1.1 47 11)
    have hbd : rd_bd b S1 (1, 0) s S1 := ⟨of_refl, hs, ⟨(show ¬(1 : Int32) = 0 by decide), (show 0 ≤ 1500 by decide)⟩, Or.inr ⟨e5, e4.trans h19, e3, rfl⟩⟩
    have h55 : ∃ S', fn_Reader_takeFunction S1 = some S' ∧ of_f (rf_W b) S1 S' ∧ (∃ s, rd_bd b S' (1, 0) s S') ∧ S'.1 47 4 = 20 := by
      have hh : ∀ l p q, ∃ S', fn_Reader_takeFunction_55 l p q S1 = some S' ∧ of_f (rf_W b) S1 S' ∧ (∃ s, rd_bd b S' (1, 0) s S') ∧ S'.1 47 4 = 20 := by
        intro l p q
        rw [rd_55_eq]
        have h3 := rd_bd_nn (p := p) (q := q) hbd
        obtain ⟨o3, hX3⟩ := rd_f4_s (l := l) (y := lo_at 9 (S1.1 47 3) S1) hX h3.1
        obtain ⟨S', e1, f1, ⟨s', g', -, -, f2, -⟩, f3⟩ := rd_f4_b (G := 61) hX3 (rd_f4_bs h3) (g := 0) (by rw [fr_ne (by omega), fr_ne (by omega), fr_q2, h3.1.1 b 3 (by unfold rd_W; omega)]; exact eb) (by omega)
        exact ⟨S', e1, of_trans o3 f1, ⟨s', f2⟩, f3⟩
      obtain ⟨w, w1, -⟩ := fo_lastOf (r := 48) (x := lo_at 9 (S1.1 47 3) S1) (S := S1) 0 wd_F (by omega) (by decide)
      have w1 : fn_LongRow_lastOf 48 (lo_at 9 (S1.1 47 3) S1) (Int32.ofNat 0) S1 = some (w, S1) := w1
      unfold fn_Reader_takeFunction fn_Reader_takeFunction_36 fn_Bodies_count
      rw [rd_r1 hX of_refl, if_pos (rd_t1 hX), wd_c_s, fo_value, wd_c_s, eb, w1, wd_c_s]
      split
      · split
        · exact hh _ _ _
        · exact hh _ _ _
      · split
        · exact hh _ _ _
        · exact hh _ _ _
    obtain ⟨S2, e2, o2, ⟨s', h2⟩, h20⟩ := h55
    rw [e2, wd_d_s, show wd_F = 999999 + 1 from rfl, rd_53_20 h20]
    exact ⟨S2, rfl, o2, rd_bd_20 h2 h20⟩
  · rw [if_neg h19]
    obtain ⟨S2, e2, o2, r2⟩ := rd_fun (fs := []) (c := 0) hX ⟨of_refl, by decide, h19, e3, e4, e5, e12⟩ ⟨eb, by decide, ec, fun j hj => absurd hj (Nat.not_lt_zero _), rfl⟩ (Nat.le_refl _)
    rw [e2, wd_d_s]
    show ∃ S', _ ∧ rd_D b S1 (ps_b (ps_fun K V [] 0) _) S'
    have r2 : (match ps_fun K V [] 0 with
      | .error e => rd_fb b 60 e S2
      | .ok q => (∃ m sc, rd_h K b S2 q.2 m sc (rd_ms (-1) q.1.2.2.2.1) S2) ∧ rd_P b ([] ++ [q.1]) (0 + q.1.2.2.2.2.1) S2) := r2
    cases q1 : ps_fun K V [] 0 with
    | error e =>
      rw [q1] at r2
      obtain ⟨S3, e3', o3, r3⟩ := rd_53_b (l := 0) (F := 999998) (rd_X_o hX o2) r2 (by decide)
      exact ⟨S3, e3', of_trans o2 o3, r3⟩
    | ok q =>
      rw [q1] at r2
      obtain ⟨⟨m, sc, h3⟩, hP3⟩ := r2
      obtain ⟨⟨w1, w2, w3, w4, w5, w6, w7, w8, -⟩, -⟩ := ps_fun_ok q1
      obtain ⟨S3, e3', o3, r3⟩ := rd_funs 1500 wd_F q.2 0 (0 + q.1.2.2.2.2.1) [q.1] S2 rfl (by decide) (rd_X_o hX o2) (by
        have : ps_M [q.1] = q.1.2.2.2.1 := List.flatMap_singleton ..
        rw [this]
        exact rd_hw h3) hP3 (by omega) (by omega)
      exact ⟨S3, e3', of_trans o2 o3, r3⟩
end Rd11
end
/-! part 73 -/
section
/-! What is to be looked up: names at their tokens; the first that is not there. -/
section Ld
variable {K : Nat → Int32} {V : Nat → Int64} {self : ps_P}
def ps_2 (K : Nat → Int32) (M : List (Nat × Nat)) : Prop := ∀ o, o ∈ M → K o.1 = 2 ∧ o.2 ≤ 1502
theorem ps_2_a {M N : List (Nat × Nat)} (h1 : ps_2 K M) (h2 : ps_2 K N) : ps_2 K (M ++ N) := fun o ho => by
  rcases List.mem_append.mp ho with h | h
  · exact h1 o h
  · exact h2 o h
theorem ps_2_0 : ps_2 K [] := fun o ho => absurd ho List.not_mem_nil
theorem ps_2_c {q : Nat × Nat} {M : List (Nat × Nat)} (h1 : K q.1 = 2 ∧ q.2 ≤ 1502) (h2 : ps_2 K M) : ps_2 K (q :: M) := fun o ho => by
  rcases List.mem_cons.mp ho with h | h
  · rw [h]; exact h1
  · exact h2 o h
theorem ps_args_2 (hs : ∀ sc i m q, self sc i m = .ok q → ps_2 K q.2.1) {sc : List (Int64 × Nat)} : ∀ f i m r, ps_args K self sc f i m = .ok r → ps_2 K r.2.1 := by
  intro f
  induction f with
  | zero => intro i m r h; cases h; exact ps_2_0
  | succ f ih =>
    intro i m r h
    unfold ps_args at h
    split at h
    · obtain ⟨i1, -, g1⟩ := ps_b_ok h
      obtain ⟨q, h2, g2⟩ := ps_b_ok g1
      obtain ⟨s, h3, g3⟩ := ps_b_ok g2
      cases g3
      exact ps_2_a (hs _ _ _ _ h2) (ih _ _ _ h3)
    · cases h; exact ps_2_0
theorem ps_atom_2 {d : Nat} (hgd : ∀ sc i m q, self sc i m = .ok q → ps_good K d i m q) (hs : ∀ sc i m q, self sc i m = .ok q → ps_2 K q.2.1) {sc : List (Int64 × Nat)} {i m : Nat} {q : ps_O} (h : ps_atom K V self sc i m = .ok q) : ps_2 K q.2.1 := by
  unfold ps_atom at h
  split at h
  · obtain ⟨i1, -, g1⟩ := ps_b_ok h
    obtain ⟨i2, -, g2⟩ := ps_b_ok g1
    cases g2
    exact ps_2_0
  · split at h
    · obtain ⟨i2, -, g2⟩ := ps_b_ok h
      cases g2
      exact ps_2_0
    · split at h
      · next hk =>
        obtain ⟨i1, -, g1⟩ := ps_b_ok h
        split at g1
        · obtain ⟨i2, -, g2⟩ := ps_b_ok g1
          split at g2
          · obtain ⟨i3, -, g3⟩ := ps_b_ok g2
            cases g3
            exact ps_2_c ⟨hk, (show 1 ≤ 1502 by decide)⟩ ps_2_0
          · obtain ⟨p, h2, g3⟩ := ps_b_ok g2
            obtain ⟨r, h3, g4⟩ := ps_b_ok g3
            obtain ⟨i3, -, g5⟩ := ps_b_ok g4
            cases g5
            obtain ⟨b1, b2, -⟩ := ps_args_good hgd _ _ _ _ h3
            obtain ⟨-, a2, -⟩ := hgd _ _ _ _ h2
            have b2 := b2 a2
            exact ps_2_c ⟨hk, by show r.1.length + 2 ≤ 1502; omega⟩ (ps_2_a (hs _ _ _ _ h2) (ps_args_2 hs _ _ _ _ h3))
        · cases g1
          unfold ps_name
          split
          · exact ps_2_0
          · exact ps_2_c ⟨hk, Nat.zero_le _⟩ ps_2_0
      · split at h
        · obtain ⟨i1, -, g1⟩ := ps_b_ok h
          obtain ⟨p, h2, g2⟩ := ps_b_ok g1
          obtain ⟨i2, -, g3⟩ := ps_b_ok g2
          cases g3
          exact hs _ _ _ p h2
        · cases h
theorem ps_two_2 {g : Int32 → Bool} {p : Nat → Nat → Except ps_E ps_O} (hp : ∀ i m q, p i m = .ok q → ps_2 K q.2.1) {i m : Nat} {q : ps_O} (h : ps_two K g p i m = .ok q) : ps_2 K q.2.1 := by
  obtain ⟨l, h1, g1⟩ := ps_b_ok h
  split at g1
  · obtain ⟨i1, -, g2⟩ := ps_b_ok g1
    obtain ⟨r, h3, g3⟩ := ps_b_ok g2
    cases g3
    exact ps_2_a (hp _ _ _ h1) (hp _ _ _ h3)
  · cases g1
    exact hp _ _ _ h1
theorem ps_ex_2 : ∀ (r : Nat) (sc : List (Int64 × Nat)) (i m : Nat) (q : ps_O), ps_ex K V r sc i m = .ok q → ps_2 K q.2.1 := by
  intro r
  induction r with
  | zero =>
    intro sc i m q h
    unfold ps_ex at h
    split at h
    · cases h
    · cases h
  | succ r ih =>
    intro sc i m q h
    unfold ps_ex at h
    split at h
    · obtain ⟨i1, -, g1⟩ := ps_b_ok h
      obtain ⟨i2, -, g2⟩ := ps_b_ok g1
      obtain ⟨i3, -, g3⟩ := ps_b_ok g2
      obtain ⟨p, h4, g4⟩ := ps_b_ok g3
      obtain ⟨i4, -, g5⟩ := ps_b_ok g4
      obtain ⟨s, h6, g6⟩ := ps_b_ok g5
      cases g6
      exact ps_2_a (ih _ _ _ _ h4) (ih _ _ _ _ h6)
    · split at h
      · obtain ⟨i1, -, g1⟩ := ps_b_ok h
        obtain ⟨p, h4, g2⟩ := ps_b_ok g1
        obtain ⟨i2, -, g3⟩ := ps_b_ok g2
        obtain ⟨s, h5, g4⟩ := ps_b_ok g3
        obtain ⟨i3, -, g5⟩ := ps_b_ok g4
        obtain ⟨u, h6, g6⟩ := ps_b_ok g5
        cases g6
        exact ps_2_a (ih _ _ _ _ h4) (ps_2_a (ih _ _ _ _ h5) (ih _ _ _ _ h6))
      · exact ps_two_2 (fun i m q h => ps_two_2 (fun i m q h => ps_two_2 (fun i m q h => ps_atom_2 (fun sc i m q h => ps_ex_good r sc i m q h) ih h) h) h) h
theorem ps_fun_2 {fk : List Int64} {i : Nat} {q : ps_F × Nat} (h : ps_fun K V fk i = .ok q) : ps_2 K q.1.2.2.2.1 := by
  obtain ⟨w, k1, k2⟩ := ps_b_ok h
  obtain ⟨i4, k3, k4⟩ := ps_b_ok k2
  obtain ⟨i5, k5, k6⟩ := ps_b_ok k4
  obtain ⟨r, k7, k8⟩ := ps_b_ok k6
  obtain ⟨i6, k9, k10⟩ := ps_b_ok k8
  cases k10
  exact ps_ex_2 _ _ _ _ _ k7
/-- of all functions: what is to be looked up stands in order, below j -/
def ps_gd (K : Nat → Int32) (j : Nat) (fs : List ps_F) : Prop := ps_2 K (ps_M fs) ∧ (∀ o, o ∈ ps_M fs → o.1 < j) ∧ (ps_M fs).Pairwise (fun a b => a.1 < b.1) ∧ (∀ q, q ∈ fs → q.2.1 ≤ 4 ∧ q.2.1 ≤ q.2.2.2.2.2 ∧ q.2.2.2.2.2 ≤ 16 ∧ tr_fit 96 q.2.2.1) ∧ fs.length ≤ 48
theorem ps_M_a (fs : List ps_F) (q : ps_F) : ps_M (fs ++ [q]) = ps_M fs ++ q.2.2.2.1 := by
  unfold ps_M
  rw [List.flatMap_append, List.flatMap_singleton]
theorem ps_gd_s {i : Nat} {fs : List ps_F} {q : ps_F × Nat} (h : ps_gd K i fs) (hq : ps_fun K V (fs.map (fun q => q.1)) i = .ok q) : ps_gd K q.2 (fs ++ [q.1]) := by
  obtain ⟨a1, a2, a3, a4, a5⟩ := h
  obtain ⟨⟨w1, w2, w3, w4, w5, w6, w7, w8, w9, w10, w11⟩, -, -, -, v5⟩ := ps_fun_ok hq
  rw [List.length_map] at v5
  refine ⟨?_, ?_, ?_, fun z hz => ?_, ?_⟩
  · rw [ps_M_a]
    exact ps_2_a a1 (ps_fun_2 hq)
  · rw [ps_M_a]
    intro o ho
    rcases List.mem_append.mp ho with h | h
    · have := a2 o h; omega
    · exact (w10 o h).2
  · rw [ps_M_a]
    refine List.pairwise_append.mpr ⟨a3, w11, fun x hx y hy => ?_⟩
    have := a2 x hx
    have := w10 y hy
    omega
  · rcases List.mem_append.mp hz with h | h
    · exact a4 z h
    · rw [List.mem_singleton.mp h]
      exact ⟨w4, w5, w6, w9⟩
  · rw [List.length_append]
    exact v5
theorem ps_funs_gd : ∀ (f i : Nat) (fs fs' : List ps_F), i ≤ 1500 → ps_gd K i fs → ps_funs K V f fs i = .ok fs' → ps_gd K 1500 fs' := by
  intro f
  have hz : ∀ i fs, i ≤ 1500 → ps_gd K i fs → ps_gd K 1500 fs := fun i fs hi h => ⟨h.1, fun o ho => by have := h.2.1 o ho; omega, h.2.2⟩
  induction f with
  | zero => intro i fs fs' hi h hq; cases hq; exact hz i fs hi h
  | succ f ih =>
    intro i fs fs' hi h hq
    unfold ps_funs at hq
    split at hq
    · cases hq; exact hz i fs hi h
    · obtain ⟨q, h1, h2⟩ := ps_b_ok hq
      obtain ⟨⟨w1, w2, -⟩, -⟩ := ps_fun_ok h1
      exact ih q.2 _ _ w2 (ps_gd_s h h1) h2
theorem ps_prog_gd {fs : List ps_F} (h : ps_prog K V = .ok fs) : ps_gd K 1500 fs := by
  unfold ps_prog at h
  split at h
  · cases h
  · obtain ⟨q, h1, h2⟩ := ps_b_ok h
    obtain ⟨⟨w1, w2, -⟩, -⟩ := ps_fun_ok h1
    have h0 : ps_gd K 0 [] := ⟨ps_2_0, fun o ho => absurd ho List.not_mem_nil, List.Pairwise.nil, fun q hq => absurd hq List.not_mem_nil, by decide⟩
    exact ps_funs_gd _ _ _ _ w2 (ps_gd_s (fs := []) h0 h1) h2
/-- the last function of a name -/
def ps_ix (x : Int64) : List ps_F → Nat → Option Nat → Option Nat
  | [], _, r => r
  | q :: l, j, r => ps_ix x l (j + 1) (if q.1 = x then some j else r)
theorem ps_ix_none {x : Int64} : ∀ (l : List ps_F) (j : Nat) (r : Option Nat), (∀ q, q ∈ l → ¬q.1 = x) → ps_ix x l j r = r := by
  intro l
  induction l with
  | nil => intro j r _; rfl
  | cons q l ih =>
    intro j r h
    unfold ps_ix
    rw [ih _ _ (fun z hz => h z (List.mem_cons_of_mem _ hz)), if_neg (h q List.mem_cons_self)]
theorem ps_ix_some {x : Int64} : ∀ (l : List ps_F) (j : Nat) (r : Option Nat) (m : Nat) (hm : m < l.length), l[m].1 = x → (∀ n, m < n → (hn : n < l.length) → ¬l[n].1 = x) → ps_ix x l j r = some (j + m) := by
  intro l
  induction l with
  | nil => intro j r m hm; exact absurd hm (Nat.not_lt_zero _)
  | cons q l ih =>
    intro j r m hm h1 h2
    unfold ps_ix
    cases m with
    | zero =>
      have h1 : q.1 = x := h1
      rw [if_pos h1]
      exact ps_ix_none _ _ _ (fun z hz => by
        obtain ⟨n, hn, rfl⟩ := List.getElem_of_mem hz
        exact h2 (n + 1) (Nat.succ_pos _) (Nat.succ_lt_succ hn))
    | succ m =>
      rw [ih (j + 1) _ m (Nat.lt_of_succ_lt_succ hm) h1 (fun n hn hl => h2 (n + 1) (Nat.succ_lt_succ hn) (Nat.succ_lt_succ hl))]
      congr 1
      omega
def ps_d : ps_F := (0, 0, tr_z, [], 0, 0)
def ps_bad (V : Nat → Int64) (fs : List ps_F) (q : Nat × Nat) : Option ps_E := if q.2 = 0 then some (4, q.1) else match ps_ix (V q.1) fs 0 none with
  | none => some (4, q.1)
  | some f => if (fs.getD f ps_d).2.1 = q.2 - 1 then none else some (5, q.1)
def ps_first (V : Nat → Int64) (fs : List ps_F) : List (Nat × Nat) → Option ps_E
  | [] => none
  | q :: r => match ps_bad V fs q with
    | some e => some e
    | none => ps_first V fs r
/-- the first bad call below last -/
def ps_fl (V : Nat → Int64) (fs : List ps_F) (last : Nat) : List (Nat × Nat) → Option ps_E
  | [] => none
  | q :: r => if q.2 = 0 then ps_fl V fs last r else if q.1 < last then (match ps_bad V fs q with
    | some e => some e
    | none => ps_fl V fs last r) else ps_fl V fs last r
def ps_mi : List (Nat × Nat) → Option Nat
  | [] => none
  | q :: r => if q.2 = 0 then some q.1 else ps_mi r
theorem ps_fl_hi {fs : List ps_F} {last : Nat} : ∀ (M : List (Nat × Nat)), (∀ o, o ∈ M → last ≤ o.1) → ps_fl V fs last M = none := by
  intro M
  induction M with
  | nil => intro _; rfl
  | cons q r ih =>
    intro h
    have h1 := h q List.mem_cons_self
    unfold ps_fl
    rw [if_neg (show ¬q.1 < last by omega), ite_self]
    exact ih (fun o ho => h o (List.mem_cons_of_mem _ ho))
theorem ps_mi_in : ∀ (M : List (Nat × Nat)) (o : Nat), ps_mi M = some o → (o, 0) ∈ M := by
  intro M
  induction M with
  | nil => intro o h; cases h
  | cons q r ih =>
    intro o h
    unfold ps_mi at h
    split at h
    · next h0 =>
      cases h
      have : q = (q.1, 0) := Prod.ext rfl h0
      rw [← this]
      exact List.mem_cons_self
    · exact List.mem_cons_of_mem _ (ih o h)
theorem ps_first_eq {fs : List ps_F} : ∀ (M : List (Nat × Nat)), (∀ o, o ∈ M → o.1 < 1500) → M.Pairwise (fun a b => a.1 < b.1) → ps_first V fs M = match ps_mi M with
    | none => ps_fl V fs 1500 M
    | some o => match ps_fl V fs o M with
      | some e => some e
      | none => some (4, o) := by
  intro M
  induction M with
  | nil => intro _ _; rfl
  | cons q r ih =>
    intro h1 h2
    obtain ⟨p1, p2⟩ := List.pairwise_cons.mp h2
    have ih := ih (fun o ho => h1 o (List.mem_cons_of_mem _ ho)) p2
    unfold ps_first ps_mi ps_fl
    by_cases h0 : q.2 = 0
    · have eb : ps_bad V fs q = some (4, q.1) := if_pos h0
      rw [eb, if_pos h0]
      simp only []
      rw [if_pos h0, ps_fl_hi r (fun o ho => Nat.le_of_lt (p1 o ho))]
    · rw [if_neg h0]
      cases hm : ps_mi r with
      | none =>
        rw [hm] at ih
        simp only [] at ih ⊢
        rw [if_neg h0, if_pos (h1 q List.mem_cons_self), ih]
      | some o =>
        rw [hm] at ih
        simp only [] at ih ⊢
        rw [if_neg h0, if_pos (p1 _ (ps_mi_in r o hm)), ih]
        cases ps_bad V fs q with
        | none => rfl
        | some e => rfl
theorem rd_ms_ne {ms : Int32} (h : ¬ms = -1) : ∀ M : List (Nat × Nat), rd_ms ms M = ms := by
  intro M
  induction M with
  | nil => rfl
  | cons q r ih =>
    show rd_ms (if q.2 = 0 ∧ ms = -1 then Int32.ofNat q.1 else ms) r = ms
    rw [if_neg (fun z => h z.2), ih]
theorem rd_ms_mi : ∀ (M : List (Nat × Nat)), (∀ o, o ∈ M → o.1 < 1500) → rd_ms (-1) M = match ps_mi M with
    | none => -1
    | some o => Int32.ofNat o := by
  intro M
  induction M with
  | nil => intro _; rfl
  | cons q r ih =>
    intro h
    have hq := h q List.mem_cons_self
    have ih := ih (fun o ho => h o (List.mem_cons_of_mem _ ho))
    unfold ps_mi
    show rd_ms (if q.2 = 0 ∧ (-1 : Int32) = -1 then Int32.ofNat q.1 else -1) r = _
    by_cases h0 : q.2 = 0
    · rw [if_pos ⟨h0, rfl⟩, if_pos h0]
      refine rd_ms_ne (fun z => ?_) r
      have := congrArg Int32.toInt z
      rw [im_i (by omega)] at this
      exact absurd this (by show ¬(q.1 : Int) = -1; omega)
    · rw [if_neg (fun z => h0 z.1), if_neg h0]
      exact ih
end Ld
end
/-! part 74 -/
section
/-! The class leads its calls. -/
def ld_W (b a k : Nat) : Prop := (a = 47 ∧ (k = 4 ∨ k = 5 ∨ k = 6)) ∨ a = b + 5
def ld_G (V : Nat → Int64) (fs : List ps_F) (v : Int32) : Int32 := match ps_ix (V v.toNatClampNeg) fs 0 none with
  | some f => Int32.ofNat f
  | none => -1
def ld_st (K : Nat → Int32) (V : Nat → Int64) (b : Nat) (fs : List ps_F) (S : wd_S) : Prop := rd_X K V b S ∧ S.1 b 3 = Int32.ofNat fs.length ∧ fs.length ≤ 48 ∧ (∀ j, (hj : j < fs.length) → S.2.1 49 j = fs[j].1 ∧ S.1 (b + 17) j = Int32.ofNat fs[j].2.1 ∧ fs[j].2.1 ≤ 4)
section Ld2
variable {K : Nat → Int32} {V : Nat → Int64} {b : Nat} {S S' S1 : wd_S} {fs : List ps_F} {c x o a last : Nat}
theorem ld_st_o (h : ld_st K V b fs S) (ho : of_f (ld_W b) S S') : ld_st K V b fs S' := by
  obtain ⟨h1, h2, h3, h4⟩ := h
  have hb := h1.1
  refine ⟨rd_X_o h1 (of_mono (fun a k q => by unfold ld_W at q; unfold rf_W; omega) ho), ?_, h3, fun j hj => ?_⟩
  · rw [ho.1 b 3 (by unfold ld_W; omega)]; exact h2
  · rw [ho.2.1 49 j (by unfold ld_W; omega), ho.1 (b + 17) j (by unfold ld_W; omega)]
    exact h4 j hj
/-- where a name's function is -/
theorem ld_ix (h : ld_st K V b fs S) {y : Int64} : ∃ w, fn_LongRow_lastOf 48 y (Int32.ofNat fs.length) S = some (w, S) ∧ ((ps_ix y fs 0 none = none ∧ w = -1) ∨ ∃ f, f < fs.length ∧ ps_ix y fs 0 none = some f ∧ w = Int32.ofNat f) := by
  obtain ⟨h1, h2, h3, h4⟩ := h
  obtain ⟨w, w1, w2⟩ := fo_lastOf (r := 48) (x := y) (S := S) fs.length wd_F (by omega) (by rw [show wd_F = 1000000 from rfl]; omega)
  have hkey : ∀ j, (hj : j < fs.length) → lo_at 48 (Int32.ofNat j) S = fs[j].1 := fun j hj => by
    rw [lo_an (L := 48) rfl (by omega)]
    exact (h4 j hj).1
  refine ⟨w, w1, ?_⟩
  rcases w2 with ⟨rfl, w3⟩ | ⟨j, hj, rfl, w3, w4⟩
  · refine Or.inl ⟨ps_ix_none _ _ _ (fun q hq z => ?_), rfl⟩
    obtain ⟨j, hj, rfl⟩ := List.getElem_of_mem hq
    exact w3 j hj (sm_eq.mpr ((hkey j hj).trans z))
  · refine Or.inr ⟨j, hj, ?_, rfl⟩
    rw [ps_ix_some fs 0 none j hj (by rw [← hkey j hj]; exact sm_eq.mp w3) (fun n hn hl z => w4 n hn hl (sm_eq.mpr ((hkey n hl).trans z))), Nat.zero_add]
theorem fo_leadCall_62 {p q : Int32} (hX : rd_X K V b S) : fn_Reader_leadCall_62 p q S = some (ro_put (b + 1 + 3) p q S) := by
  unfold fn_Reader_leadCall_62
  rw [rd_r2 hX of_refl, if_pos (rd_t2 hX), fo_lead, wd_d_s]
theorem ld_call (h : ld_st K V b fs S) (hK : K o = 2) (ho : o < 1500) (hx : x < 1500) (ha : S.1 (b + 1 + 6) x = Int32.ofNat a) (ha2 : a ≤ 2000) (h0 : S.1 47 5 = 0) : ∃ S', fn_Reader_leadCall (Int32.ofNat x) (Int32.ofNat o) S = some S' ∧ of_f (ld_W b) S S' ∧ (∀ y, y ≠ x → S'.1 (b + 1 + 4) y = S.1 (b + 1 + 4) y) ∧ match ps_bad V fs (o, a + 1) with
    | some e => ¬e.1 = 0 ∧ S'.1 47 5 = e.1 ∧ S'.1 47 6 = Int32.ofNat e.2
    | none => S'.1 47 5 = 0 ∧ S'.1 (b + 1 + 4) x = ld_G V fs (Int32.ofNat o) := by
  have hX := h.1
  have hb := hX.1
  have hL := rd_L hX
  have h2 := h.2.1
  have h3 := h.2.2.1
  obtain ⟨w, w1, w2⟩ := ld_ix (y := V o) h
  have hput : ∀ (S1 : wd_S) (v : Int32), ro_put (b + 1 + 3) (Int32.ofNat x) v S1 = wd_i S1 (b + 5) x v := fun S1 v => by rw [ro_pn hL.2.1 hx]
  have hfa : ∀ (z : Int32) (S1 : wd_S), S1 = S → ¬z = 0 → ∀ v, ∃ S', wd_d (some (fo_fa z (Int32.ofNat o) S1)) (fun S28 => fn_Reader_leadCall_62 (Int32.ofNat x) v S28) = some S' ∧ of_f (ld_W b) S S' ∧ (∀ y, y ≠ x → S'.1 (b + 1 + 4) y = S.1 (b + 1 + 4) y) ∧ ¬z = 0 ∧ S'.1 47 5 = z ∧ S'.1 47 6 = Int32.ofNat o := by
    intro z S1 e1 hz v
    subst e1
    have o1 : of_f (ld_W b) S1 (fo_fa z (Int32.ofNat o) S1) := by
      rw [rd_fa0 h0]
      exact of_i (by unfold ld_W; omega) (of_i (by unfold ld_W; omega) (of_i (by unfold ld_W; omega) of_refl))
    rw [wd_d_s, fo_leadCall_62 (ld_st_o h o1).1, hput]
    refine ⟨_, rfl, of_i (by unfold ld_W; omega) o1, fun y hy => ?_, hz, ?_, ?_⟩
    · rw [fr_ne (by omega), (rd_fa_out).1 _ (by omega)]
    · rw [fr_ne (by omega), rd_fa0 h0, fr_ne (by omega), fr_ne (by omega), fr_eq]
    · rw [fr_ne (by omega), rd_fa0 h0, fr_ne (by omega), fr_eq]
  unfold fn_Reader_leadCall ps_bad fn_Bodies_count ld_G
  rw [fo_value, wd_c_s, rd_val hX of_refl (by omega) (Or.inr hK), rd_r1 hX of_refl, if_pos (rd_t1 hX), wd_c_s, h2, w1, wd_c_s, if_neg (Nat.succ_ne_zero _), im_t (by omega)]
  rcases w2 with ⟨p1, rfl⟩ | ⟨f, hf, p1, rfl⟩
  · rw [if_pos rfl, fo_faultAt, p1]
    exact hfa 4 S rfl (by decide) (-1)
  · rw [if_neg (fun z => by have := congrArg Int32.toInt z; rw [im_i (by omega)] at this; exact absurd this (by show ¬(f : Int) = -1; omega)), rd_r2 hX of_refl, if_pos (rd_t2 hX), fo_tparts, wd_c_s, rd_r1 hX of_refl, if_pos (rd_t1 hX), fo_params, wd_c_s, ro_an hL.2.2.1 hx, ha, ro_an (L := 48) (by rcases hb with z | z <;> rw [z] <;> rfl) (by omega), p1]
    obtain ⟨-, q2, q3⟩ := h.2.2.2 f hf
    have eg : fs.getD f ps_d = fs[f] := by rw [List.getD_eq_getElem?_getD, List.getElem?_eq_getElem hf, Option.getD_some]
    simp only [Nat.add_sub_cancel]
    rw [show S.1 (b + 16 + 1) f = Int32.ofNat fs[f].2.1 from q2, eg]
    by_cases hp : fs[f].2.1 = a
    · rw [if_pos (by rw [hp]), if_pos hp, fo_leadCall_62 hX, hput]
      refine ⟨_, rfl, of_i (by unfold ld_W; omega) of_refl, fun y hy => ?_, ?_, ?_⟩
      · rw [fr_ne (by omega)]
      · rw [fr_ne (by omega)]; exact h0
      · rw [fr_e (by omega)]
    · rw [if_neg (fun z => hp ((im_eq (by omega) (by omega)).mp z).symm), if_neg hp, fo_faultAt]
      exact hfa 5 S rfl (by decide) _
theorem ld_82 {F : Nat} {l y : Int32} (hX : rd_X K V b S) (h : ¬S.1 47 5 = 0) : fn_Reader_leadCalls_21 (F + 1) l y S = fn_Reader_leadCalls_82 S := by
  rw [fn_Reader_leadCalls_21]
  unfold fn_Trees_count
  rw [rd_r2 hX of_refl, if_pos (rd_t2 hX), wd_c_s, if_neg h, ite_self]
theorem ld_loop (hl : last ≤ 1500) (hc : c ≤ 1500) : ∀ (k F x : Nat) (C : List (Nat × Nat)) (S : wd_S), x + k = c → k < F → S.1 (b + 1) 6 = Int32.ofNat c → ld_st K V b fs S → S.1 47 5 = 0 → nd_c (b + 1) S k x = C.map (fun q => (Int32.ofNat q.1, Int32.ofNat (q.2 - 1))) → (∀ q, q ∈ C → K q.1 = 2 ∧ q.1 < 1500 ∧ 1 ≤ q.2 ∧ q.2 ≤ 2000) → ∃ S', fn_Reader_leadCalls_21 F (Int32.ofNat last) (Int32.ofNat x) S = fn_Reader_leadCalls_82 S' ∧ of_f (ld_W b) S S' ∧ match ps_fl V fs last C with
    | some e => ¬e.1 = 0 ∧ S'.1 47 5 = e.1 ∧ S'.1 47 6 = Int32.ofNat e.2
    | none => S'.1 47 5 = 0 ∧ ∀ y, S'.1 (b + 1 + 4) y = if x ≤ y ∧ y < c ∧ S.1 (b + 1 + 2) y = 5 ∧ S.1 (b + 1 + 4) y < Int32.ofNat last then ld_G V fs (S.1 (b + 1 + 4) y) else S.1 (b + 1 + 4) y := by
  intro k
  induction k with
  | zero =>
    intro F x C S hk hF h6 hst h0 hC hq
    obtain ⟨F, rfl⟩ : ∃ g, F = g + 1 := ⟨F - 1, by omega⟩
    have hX := hst.1
    have eC : C = [] := by
      cases C with
      | nil => rfl
      | cons q r => cases hC
    subst eC
    rw [fn_Reader_leadCalls_21]
    unfold fn_Trees_count
    rw [rd_r2 hX of_refl, if_pos (rd_t2 hX), wd_c_s, h6, if_neg (fun z => by have := (im_lt (by omega) (by omega)).mp z; omega)]
    exact ⟨S, rfl, of_refl, h0, fun y => (if_neg (fun z => by omega)).symm⟩
  | succ k ih =>
    intro F x C S hk hF h6 hst h0 hC hq
    obtain ⟨F, rfl⟩ : ∃ g, F = g + 1 := ⟨F - 1, by omega⟩
    have hX := hst.1
    have hb := hX.1
    have hL := rd_L hX
    have hx : x < 1500 := by omega
    rw [fn_Reader_leadCalls_21]
    unfold fn_Trees_count fn_Reader_leadCalls_76
    simp only [wd_c_s, rd_r2 hX of_refl, if_pos (rd_t2 hX), fo_tkind, fo_tvalue]
    rw [h6, if_pos ((im_lt (by omega) (by omega)).mpr (by omega)), if_pos h0, ro_an hL.1 hx, ro_an hL.2.1 hx, im_s]
    rw [nd_c_s] at hC
    by_cases h5 : S.1 (b + 1 + 2) x = 5
    · rw [if_pos h5] at hC
      cases C with
      | nil => cases hC
      | cons q C =>
        obtain ⟨e1, e2⟩ := List.cons.inj hC
        have e3 : S.1 (b + 1 + 4) x = Int32.ofNat q.1 := congrArg Prod.fst e1
        have e4 : S.1 (b + 1 + 6) x = Int32.ofNat (q.2 - 1) := congrArg Prod.snd e1
        obtain ⟨k1, k2, k3, k4⟩ := hq q List.mem_cons_self
        rw [show S.1 (b + 1 + 1 + 1) x = S.1 (b + 1 + 2) x from rfl, if_pos h5, show S.1 (b + 1 + 3 + 1) x = S.1 (b + 1 + 4) x from rfl, e3]
        unfold ps_fl
        rw [if_neg (show ¬q.2 = 0 by omega)]
        by_cases hlt : q.1 < last
        · rw [if_pos ((im_lt (by omega) (by omega)).mpr hlt), if_pos hlt]
          obtain ⟨S2, f1, f2, f3, f4⟩ := ld_call hst k1 k2 hx e4 (by omega) h0
          rw [f1, wd_d_s]
          rw [show (q.1, q.2 - 1 + 1) = q from Prod.ext rfl (by show q.2 - 1 + 1 = q.2; omega)] at f4
          have hst2 := ld_st_o hst f2
          cases hbad : ps_bad V fs q with
          | some e =>
            rw [hbad] at f4
            obtain ⟨F, rfl⟩ : ∃ g, F = g + 1 := ⟨F - 1, by omega⟩
            exact ⟨S2, ld_82 hst2.1 (by rw [f4.2.1]; exact f4.1), f2, f4⟩
          | none =>
            rw [hbad] at f4
            have gk : ∀ y, S2.1 (b + 1 + 2) y = S.1 (b + 1 + 2) y := fun y => f2.1 _ _ (by unfold ld_W; omega)
            have e5 : nd_c (b + 1) S2 k (x + 1) = nd_c (b + 1) S k (x + 1) := by
              have : ∀ (k x' : Nat), x < x' → nd_c (b + 1) S2 k x' = nd_c (b + 1) S k x' := by
                intro k
                induction k with
                | zero => intro x' _; rfl
                | succ k ih2 =>
                  intro x' hx'
                  rw [nd_c_s, nd_c_s, gk, f3 x' (by omega), f2.1 (b + 1 + 6) x' (by unfold ld_W; omega), ih2 (x' + 1) (by omega)]
              exact this k (x + 1) (by omega)
            obtain ⟨S3, g1, g2, g3⟩ := ih F (x + 1) C S2 (by omega) (by omega) (by rw [f2.1 (b + 1) 6 (by unfold ld_W; omega)]; exact h6) hst2 f4.1 (e5.trans e2) (fun z hz => hq z (List.mem_cons_of_mem _ hz))
            refine ⟨S3, g1, of_trans f2 g2, ?_⟩
            simp only []
            cases hfl : ps_fl V fs last C with
            | some e => rw [hfl] at g3; exact g3
            | none =>
              rw [hfl] at g3
              refine ⟨g3.1, fun y => ?_⟩
              rw [g3.2 y, gk]
              by_cases hy : y = x
              · subst hy
                rw [if_neg (fun z => by omega), if_pos ⟨Nat.le_refl _, by omega, h5, by rw [e3]; exact (im_lt (by omega) (by omega)).mpr hlt⟩, f4.2, e3]
              · rw [f3 y hy]
                by_cases hc2 : x + 1 ≤ y ∧ y < c ∧ S.1 (b + 1 + 2) y = 5 ∧ S.1 (b + 1 + 4) y < Int32.ofNat last
                · rw [if_pos hc2, if_pos ⟨by omega, hc2.2⟩]
                · rw [if_neg hc2, if_neg (fun z => hc2 ⟨by omega, z.2⟩)]
        · rw [if_neg (fun z => hlt ((im_lt (by omega) (by omega)).mp z)), if_neg hlt]
          obtain ⟨S3, g1, g2, g3⟩ := ih F (x + 1) C S (by omega) (by omega) h6 hst h0 e2 (fun z hz => hq z (List.mem_cons_of_mem _ hz))
          refine ⟨S3, g1, g2, ?_⟩
          cases hfl : ps_fl V fs last C with
          | some e => rw [hfl] at g3; exact g3
          | none =>
            rw [hfl] at g3
            refine ⟨g3.1, fun y => ?_⟩
            rw [g3.2 y]
            by_cases hc2 : x + 1 ≤ y ∧ y < c ∧ S.1 (b + 1 + 2) y = 5 ∧ S.1 (b + 1 + 4) y < Int32.ofNat last
            · rw [if_pos hc2, if_pos ⟨by omega, hc2.2⟩]
            · rw [if_neg hc2, if_neg (fun z => hc2 ⟨by
                have : y ≠ x := fun w => by
                  rw [w, e3] at z
                  exact hlt ((im_lt (by omega) (by omega)).mp z.2.2.2)
                omega, z.2⟩)]
    · rw [if_neg h5] at hC
      rw [show S.1 (b + 1 + 1 + 1) x = S.1 (b + 1 + 2) x from rfl, if_neg h5]
      obtain ⟨S3, g1, g2, g3⟩ := ih F (x + 1) C S (by omega) (by omega) h6 hst h0 hC hq
      refine ⟨S3, g1, g2, ?_⟩
      cases hfl : ps_fl V fs last C with
      | some e => rw [hfl] at g3; exact g3
      | none =>
        rw [hfl] at g3
        refine ⟨g3.1, fun y => ?_⟩
        rw [g3.2 y]
        by_cases hc2 : x + 1 ≤ y ∧ y < c ∧ S.1 (b + 1 + 2) y = 5 ∧ S.1 (b + 1 + 4) y < Int32.ofNat last
        · rw [if_pos hc2, if_pos ⟨by omega, hc2.2⟩]
        · rw [if_neg hc2, if_neg (fun z => hc2 ⟨by
            have : y ≠ x := fun w => by
              rw [w] at z
              exact h5 z.2.2.1
            omega, z.2⟩)]
end Ld2
end
