/-! Any E of the class's reader. -/
section Rd7
variable {K : Nat → Int32} {V : Nat → Int64} {b : Nat} {S0 : wd_S} {i m : Nat} {sc : List (Int64 × Nat)} {ms : Int32} {S S' S1 : wd_S} {e : ps_E} {s : Nat} {k : Int32} {n c d : Nat} {a z u v : Int32} {self : ps_P} {x : Int64}
theorem fo_within : fn_Reader_refuseWithin S = some (if S.1 47 4 = 3 ∨ S.1 47 4 = 4 ∨ S.1 47 4 = 7 ∨ S.1 47 4 = 1 ∨ S.1 47 4 = 2 ∨ S.1 47 4 = 15 then fo_fa 6 (S.1 47 3) S else fo_rf S) := by
  unfold fn_Reader_refuseWithin fn_Reader_refuseWithin_97
  simp only [fo_faultAt, fo_refuse, wd_d_s]
  generalize S.1 47 4 = w
  by_cases h1 : w = 1
  · rw [if_pos h1, if_pos (show w = 3 ∨ w = 4 ∨ w = 7 ∨ w = 1 ∨ w = 2 ∨ w = 15 by rw [h1]; decide)]
  rw [if_neg h1]
  by_cases h2 : w = 2
  · rw [if_pos h2, if_pos (show w = 3 ∨ w = 4 ∨ w = 7 ∨ w = 1 ∨ w = 2 ∨ w = 15 by rw [h2]; decide)]
  rw [if_neg h2]
  by_cases h3 : w = 3
  · rw [if_pos h3, if_pos (show w = 3 ∨ w = 4 ∨ w = 7 ∨ w = 1 ∨ w = 2 ∨ w = 15 by rw [h3]; decide)]
  rw [if_neg h3]
  by_cases h4 : w = 4
  · rw [if_pos h4, if_pos (show w = 3 ∨ w = 4 ∨ w = 7 ∨ w = 1 ∨ w = 2 ∨ w = 15 by rw [h4]; decide)]
  rw [if_neg h4]
  by_cases h5 : w = 5
  · rw [if_pos h5, if_neg (show ¬(w = 3 ∨ w = 4 ∨ w = 7 ∨ w = 1 ∨ w = 2 ∨ w = 15) by rw [h5]; decide)]
  rw [if_neg h5]
  by_cases h6 : w = 6
  · rw [if_pos h6, if_neg (show ¬(w = 3 ∨ w = 4 ∨ w = 7 ∨ w = 1 ∨ w = 2 ∨ w = 15) by rw [h6]; decide)]
  rw [if_neg h6]
  by_cases h7 : w = 7
  · rw [if_pos h7, if_pos (show w = 3 ∨ w = 4 ∨ w = 7 ∨ w = 1 ∨ w = 2 ∨ w = 15 by rw [h7]; decide)]
  rw [if_neg h7]
  by_cases h8 : w = 8
  · rw [if_pos h8, if_neg (show ¬(w = 3 ∨ w = 4 ∨ w = 7 ∨ w = 1 ∨ w = 2 ∨ w = 15) by rw [h8]; decide)]
  rw [if_neg h8]
  by_cases h9 : w = 9
  · rw [if_pos h9, if_neg (show ¬(w = 3 ∨ w = 4 ∨ w = 7 ∨ w = 1 ∨ w = 2 ∨ w = 15) by rw [h9]; decide)]
  rw [if_neg h9]
  by_cases h10 : w = 10
  · rw [if_pos h10, if_neg (show ¬(w = 3 ∨ w = 4 ∨ w = 7 ∨ w = 1 ∨ w = 2 ∨ w = 15) by rw [h10]; decide)]
  rw [if_neg h10]
  by_cases h11 : w = 11
  · rw [if_pos h11, if_neg (show ¬(w = 3 ∨ w = 4 ∨ w = 7 ∨ w = 1 ∨ w = 2 ∨ w = 15) by rw [h11]; decide)]
  rw [if_neg h11]
  by_cases h12 : w = 12
  · rw [if_pos h12, if_neg (show ¬(w = 3 ∨ w = 4 ∨ w = 7 ∨ w = 1 ∨ w = 2 ∨ w = 15) by rw [h12]; decide)]
  rw [if_neg h12]
  by_cases h13 : w = 13
  · rw [if_pos h13, if_neg (show ¬(w = 3 ∨ w = 4 ∨ w = 7 ∨ w = 1 ∨ w = 2 ∨ w = 15) by rw [h13]; decide)]
  rw [if_neg h13]
  by_cases h14 : w = 14
  · rw [if_pos h14, if_neg (show ¬(w = 3 ∨ w = 4 ∨ w = 7 ∨ w = 1 ∨ w = 2 ∨ w = 15) by rw [h14]; decide)]
  rw [if_neg h14]
  by_cases h15 : w = 15
  · rw [if_pos h15, if_pos (show w = 3 ∨ w = 4 ∨ w = 7 ∨ w = 1 ∨ w = 2 ∨ w = 15 by rw [h15]; decide)]
  rw [if_neg h15]
  rw [if_neg (show ¬(w = 3 ∨ w = 4 ∨ w = 7 ∨ w = 1 ∨ w = 2 ∨ w = 15) by
    rintro (h | h | h | h | h | h)
    · exact h3 h
    · exact h4 h
    · exact h7 h
    · exact h1 h
    · exact h2 h
    · exact h15 h)]
theorem rd_eq51 : (fun S => rc_Reader_takeE (n + 1) 51 a z S) = fun S => wd_c (rc_Reader_takeE n 52 a 0 S) fun x2 S1 => if (S1.1 47 4 == 8) = true then rd_tl (fun S => rc_Reader_takeE n 52 a 0 S) x2 (S1.1 47 4) S1 else some (x2, S1) := by
  funext S
  rw [rc_51]
  unfold fn_Reader_takeProduct
  congr 1
  funext x2 S1
  by_cases h : S1.1 47 4 = 8
  · rw [if_pos h, h, if_pos (by decide)]
    rfl
  · rw [if_neg h, if_neg (by rw [beq_iff_eq]; exact h)]
theorem rd_eq50 : (fun S => rc_Reader_takeE (n + 1) 50 a z S) = fun S => wd_c (rc_Reader_takeE n 51 a 0 S) fun x2 S1 => if (S1.1 47 4 == 6 || S1.1 47 4 == 7) = true then rd_tl (fun S => rc_Reader_takeE n 51 a 0 S) x2 (S1.1 47 4) S1 else some (x2, S1) := by
  funext S
  rw [rc_50]
  unfold fn_Reader_takeSum
  congr 1
  funext x2 S1
  by_cases h : S1.1 47 4 = 6
  · rw [if_pos h, if_pos (by rw [h]; decide)]
    rfl
  · rw [if_neg h]
    by_cases h2 : S1.1 47 4 = 7
    · rw [if_pos h2, if_pos (by rw [h2]; decide)]
      rfl
    · rw [if_neg h2, if_neg (by rw [Bool.or_eq_true, beq_iff_eq, beq_iff_eq]; rintro (q | q); exact h q; exact h2 q)]
theorem rd_eq49 : (fun S => rc_Reader_takeE (n + 1) 49 a z S) = fun S => wd_c (rc_Reader_takeE n 50 a 0 S) fun x2 S1 => if (S1.1 47 4 == 9 || S1.1 47 4 == 10) = true then rd_tl (fun S => rc_Reader_takeE n 50 a 0 S) x2 (S1.1 47 4) S1 else some (x2, S1) := by
  funext S
  rw [rc_49]
  unfold fn_Reader_takeComparison
  congr 1
  funext x2 S1
  by_cases h : S1.1 47 4 = 9
  · rw [if_pos h, if_pos (by rw [h]; decide)]
    rfl
  · rw [if_neg h]
    by_cases h2 : S1.1 47 4 = 10
    · rw [if_pos h2, if_pos (by rw [h2]; decide)]
      rfl
    · rw [if_neg h2, if_neg (by rw [Bool.or_eq_true, beq_iff_eq, beq_iff_eq]; rintro (q | q); exact h q; exact h2 q)]
theorem rd_ex (hX : rd_X K V b S0) : ∀ (r : Nat), r ≤ 24 → ∀ n, 6 * r + 5 ≤ n → ∀ sc, rd_C K b S0 sc (4 * r) (ps_ex K V r sc) (fun S => rc_Reader_takeE n 43 (Int32.ofNat (24 - r)) 0 S) := by
  intro r
  induction r with
  | zero =>
    intro _ n hn sc i m ms c S h hc hci
    obtain ⟨n, rfl⟩ : ∃ g, n = g + 1 := ⟨n - 1, by omega⟩
    show ∃ x S', rc_Reader_takeE (n + 1) 43 (Int32.ofNat 24) 0 S = some (x, S') ∧ rd_R K b S0 m sc ms c 0 S (if K i = 3 ∨ K i = 4 ∨ K i = 7 ∨ K i = 1 ∨ K i = 2 ∨ K i = 15 then .error (6, i) else .error (2, i)) x S'
    rw [rc_43]
    unfold fn_Reader_takeE
    rw [if_neg (by decide), fo_within, wd_d_s, h.2.2.2.2.1]
    refine ⟨_, _, rfl, ?_⟩
    split
    · exact rd_fault h (by decide)
    · exact rd_refuse h
  | succ r ih =>
    intro hr n hn sc
    obtain ⟨n, rfl⟩ : ∃ g, n = g + 6 := ⟨n - 6, by omega⟩
    have hgd : ∀ sc i m q, ps_ex K V r sc i m = .ok q → ps_good K (4 * r) i m q := fun sc i m q hq => ps_ex_good r sc i m q hq
    have ea : Int32.ofNat (24 - (r + 1)) + 1 = Int32.ofNat (24 - r) := by rw [im_s, show 24 - (r + 1) + 1 = 24 - r by omega]
    have hs : ∀ n', 6 * r + 5 ≤ n' → ∀ sc, rd_C K b S0 sc (4 * r) (ps_ex K V r sc) (fun S => rc_Reader_takeE n' 43 (Int32.ofNat (24 - (r + 1)) + 1) 0 S) := by
      rw [ea]
      exact ih (by omega)
    have h52 : rd_C K b S0 sc (4 * r + 1) (ps_atom K V (ps_ex K V r) sc) (fun S => rc_Reader_takeE (n + 2) 52 (Int32.ofNat (24 - (r + 1))) 0 S) := rd_atom hX (n := n) (by omega) (fun n' h' => hs n' (by omega) sc) hgd
    have h51 : rd_C K b S0 sc (4 * r + 2) (ps_product K V (ps_ex K V r) sc) (fun S => rc_Reader_takeE (n + 3) 51 (Int32.ofNat (24 - (r + 1))) 0 S) := by
      rw [rd_eq51]
      exact rd_two hX (by decide) h52 (fun e s S hb => ⟨_, _, rd_b52 hb, (rd_bd_rf hb).1⟩) (fun i m q hq => ps_atom_good hgd hq)
    have h50 : rd_C K b S0 sc (4 * r + 3) (ps_sum K V (ps_ex K V r) sc) (fun S => rc_Reader_takeE (n + 4) 50 (Int32.ofNat (24 - (r + 1))) 0 S) := by
      rw [rd_eq50]
      exact rd_two hX (by decide) h51 (fun e s S hb => ⟨_, _, rd_b51 hb, (rd_bd_rf hb).1⟩) (fun i m q hq => ps_two_good (fun i m q hq => ps_atom_good hgd hq) hq)
    have h49 : rd_C K b S0 sc (4 * r + 4) (ps_cmp K V (ps_ex K V r) sc) (fun S => rc_Reader_takeE (n + 5) 49 (Int32.ofNat (24 - (r + 1))) 0 S) := by
      rw [rd_eq49]
      exact rd_two hX (by decide) h50 (fun e s S hb => ⟨_, _, rd_b50 hb, (rd_bd_rf hb).1⟩) (fun i m q hq => ps_two_good (fun i m q hq => ps_two_good (fun i m q hq => ps_atom_good hgd hq) hq) hq)
    intro i m ms c S h hc hci
    show ∃ x S', rc_Reader_takeE (n + 5 + 1) 43 (Int32.ofNat (24 - (r + 1))) 0 S = some (x, S') ∧ rd_R K b S0 m sc ms c (4 * (r + 1)) S (if K i = 3 then ps_let K V (ps_ex K V r) sc i m else if K i = 4 then ps_if K (ps_ex K V r) sc i m else ps_cmp K V (ps_ex K V r) sc i m) x S'
    rw [rc_43]
    unfold fn_Reader_takeE
    rw [if_pos ((mo_lt (m := 24) (b := 24) (by omega) (by omega) rfl).mpr (by omega)), h.2.2.2.2.1]
    by_cases k3 : K i = 3
    · rw [if_pos k3, if_pos k3, rc_45]
      obtain ⟨x, S', e1, r1⟩ := rd_let hX (n := n + 4) (by omega) (hs (n + 4) (by omega)) hgd i m ms c S h hc hci
      have e1 : fn_Reader_takeLet (rc_Reader_takeE (n + 4)) (Int32.ofNat (24 - (r + 1))) S = some (x, S') := e1
      rw [e1, wd_c_s]
      exact ⟨_, _, rfl, rd_R_d (by omega) r1⟩
    · rw [if_neg k3, if_neg k3]
      by_cases k4 : K i = 4
      · rw [if_pos k4, if_pos k4, rc_48]
        obtain ⟨x, S', e1, r1⟩ := rd_if hX (n := n + 4) (by omega) (hs (n + 4) (by omega) sc) (hgd sc) i m ms c S h hc hci
        have e1 : fn_Reader_takeIf (rc_Reader_takeE (n + 4)) (Int32.ofNat (24 - (r + 1))) S = some (x, S') := e1
        rw [e1, wd_c_s]
        exact ⟨_, _, rfl, rd_R_d (by omega) r1⟩
      · rw [if_neg k4, if_neg k4]
        obtain ⟨x, S', e1, r1⟩ := h49 i m ms c S h hc hci
        have e1 : rc_Reader_takeE (n + 5) 49 (Int32.ofNat (24 - (r + 1))) 0 S = some (x, S') := e1
        rw [e1, wd_c_s]
        exact ⟨_, _, rfl, r1⟩
end Rd7
