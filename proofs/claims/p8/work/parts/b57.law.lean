/-! The law. -/
theorem rl_0 : RL s0_S := by
  refine ⟨[], [], [], fun _ => 0, 0, -1, 0, fun _ => 0, [], [], fun _ => 0, ⟨by decide, by decide, by decide, by decide, ⟨by decide, fun f => ?_, fun f hf => absurd hf (Nat.not_lt_zero _)⟩, rfl, mk_ok_0, fun _ => rfl, ([], 0, 0, 0), rfl, fun j hj => absurd hj (Nat.not_lt_zero _), Nat.le_refl _, Nat.zero_le _⟩, ⟨⟨11, 29, Or.inl ⟨rfl, rfl⟩, rfl, rfl, rfl, fun j hj => absurd hj (Nat.not_lt_zero _)⟩, 54, 79, Or.inl ⟨rfl, rfl⟩, rfl, rfl, Or.inl rfl, rfl, Nat.zero_le _, ⟨rfl, mk_ok_0, fun j hj => absurd hj (Nat.not_lt_zero _)⟩, fun j hj => absurd hj (Nat.not_lt_zero _), fun j hj => absurd hj (Nat.not_lt_zero _)⟩, ⟨rfl, rfl, rfl, rfl, fun i _ => rfl, rfl, fun j hj => absurd hj (Nat.not_lt_zero _), rfl, fun j hj => absurd hj (Nat.not_lt_zero _), fun i _ => rfl⟩, ⟨0, 0, by decide, rfl, Or.inl ⟨rfl, rfl⟩, vm_0 (by decide) (by decide) rfl rfl⟩, ⟨rfl, rfl, rfl, fun i hi => ?_, fun i _ => rfl, rfl, fun j hj => absurd hj (Nat.not_lt_zero _), rfl, fun j hj => absurd hj (Nat.not_lt_zero _), rfl, rfl, rfl⟩⟩
  · exact Nat.zero_le _
  · rw [Nat.zero_div]
    rfl
section Lw
variable {L i : Nat} {xs : Nat → Int32} {S : wd_S}
theorem lw_6 (hL : L ≤ 3072) (hi : i ≤ 4000) : Int32.ofNat L - 6 < Int32.ofNat i ↔ L < i + 6 := by
  have e6 : (6 : Int32).toInt = 6 := rfl
  rw [Int32.lt_iff_toInt_lt, Int32.toInt_sub, im_i (show L < 2147483648 by omega), im_i (show i < 2147483648 by omega), e6, Int.bmod_eq_of_le (by omega) (by omega)]
  omega
theorem lw_g {c : Nat} {k : Int32} (hk : k = Int32.ofNat c) (hL : L ≤ 3072) (h : i + c < L) : ¬(Int32.ofNat i + k < 0 ∨ L ≤ (Int32.ofNat i + k).toNatClampNeg) := by
  rw [hk, ← Int32.ofNat_add]
  exact ms_in h (by omega)
theorem lw_go (hL : L ≤ 3072) : ∀ (q i F : Nat) (S : wd_S), L < i + 6 + 6 * q → q < F → i ≤ 4000 → RL S → ∃ S', fn_La_law_23 L xs F (Int32.ofNat i) S = some (1, S') ∧ S'.2.2.2 ≤ S.2.2.2 + q := by
  intro q
  induction q with
  | zero =>
    intro i F S hq hF hi hR
    obtain ⟨F, rfl⟩ : ∃ f, F = f + 1 := ⟨F - 1, by omega⟩
    exact ⟨S, by rw [fn_La_law_23, if_pos ((lw_6 hL hi).mpr (by omega))], Nat.le_refl _⟩
  | succ q ih =>
    intro i F S hq hF hi hR
    obtain ⟨F, rfl⟩ : ∃ f, F = f + 1 := ⟨F - 1, by omega⟩
    by_cases hg : L < i + 6
    · exact ⟨S, by rw [fn_La_law_23, if_pos ((lw_6 hL hi).mpr hg)], Nat.le_add_right _ _⟩
    · have fin : ∀ S2, RL S2 → S2.2.2.2 ≤ S.2.2.2 + 1 → ∃ S', fn_La_law_634 L xs (fn_La_law_23 L xs F) (Int32.ofNat i) S2 = some (1, S') ∧ S'.2.2.2 ≤ S.2.2.2 + (q + 1) := fun S2 h2 hn => by
        obtain ⟨S', f', n'⟩ := ih (i + 6) F S2 (by omega) (by omega) (by omega) h2
        refine ⟨S', ?_, by omega⟩
        unfold fn_La_law_634
        rw [show Int32.ofNat i + 6 = Int32.ofNat (i + 6) from (Int32.ofNat_add i 6).symm]
        exact f'
      have g1 := lw_g (k := 1) (c := 1) rfl hL (show i + 1 < L by omega)
      have g2 := lw_g (k := 2) (c := 2) rfl hL (show i + 2 < L by omega)
      have g3 := lw_g (k := 3) (c := 3) rfl hL (show i + 3 < L by omega)
      have g4 := lw_g (k := 4) (c := 4) rfl hL (show i + 4 < L by omega)
      have g5 := lw_g (k := 5) (c := 5) rfl hL (show i + 5 < L by omega)
      rw [fn_La_law_23, if_neg (fun z => hg ((lw_6 hL hi).mp z)), if_neg (ms_in (show i < L by omega) (by omega))]
      generalize xs (Int32.ofNat i).toNatClampNeg &&& 15 = c
      by_cases c0 : c = 0
      · rw [if_pos c0, if_neg g1, if_neg g2, if_neg g3, if_neg g4, if_neg g5]
        obtain ⟨x, S1, y, S2, f1, f2, r1, -, -, r4⟩ := op_feed (x1 := xs (Int32.ofNat i + 1).toNatClampNeg) (x2 := xs (Int32.ofNat i + 2).toNatClampNeg) (x3 := xs (Int32.ofNat i + 3).toNatClampNeg) (x4 := xs (Int32.ofNat i + 4).toNatClampNeg) (x5 := xs (Int32.ofNat i + 5).toNatClampNeg) hR
        rw [f1, wd_c_s, if_neg g1, if_neg g2, if_neg g3, if_neg g4, if_neg g5, f2, wd_c_s]
        exact fin S2 r1 r4
      · rw [if_neg c0]
        by_cases c1 : c = 1
        · rw [if_pos c1, if_neg g1]
          obtain ⟨x, S1, y, S2, f1, f2, r1, -, -, r4⟩ := op_cut (p := xs (Int32.ofNat i + 1).toNatClampNeg) hR
          rw [f1, wd_c_s, if_neg g1, f2, wd_c_s]
          exact fin S2 r1 r4
        · rw [if_neg c1]
          by_cases c2 : c = 2
          · rw [if_pos c2]
            obtain ⟨x, S1, S2, f1, f2, r1, -, r4⟩ := op_read hR
            rw [f1, wd_c_s, f2, wd_c_s]
            exact fin S2 r1 (by omega)
          · rw [if_neg c2]
            by_cases c3 : c = 3
            · rw [if_pos c3]
              obtain ⟨x, y, S2, f1, f2, r1, r2, -, r4⟩ := op_place hR
              rw [f1, wd_c_s, f2, wd_c_s]
              exact fin S2 r1 (by omega)
            · rw [if_neg c3]
              by_cases c4 : c = 4
              · rw [if_pos c4, if_neg g1, if_neg g2]
                obtain ⟨x, S1, y, S2, f1, f2, r1, -, -, r4⟩ := op_function (p := xs (Int32.ofNat i + 1).toNatClampNeg) (q := xs (Int32.ofNat i + 2).toNatClampNeg) hR
                rw [f1, wd_c_s, if_neg g1, if_neg g2, f2, wd_c_s]
                exact fin S2 r1 r4
              · rw [if_neg c4]
                by_cases c5 : c = 5
                · rw [if_pos c5, if_neg g1, if_neg g2]
                  obtain ⟨x, S1, y, S2, f1, f2, r1, -, -, r4⟩ := op_know (p := xs (Int32.ofNat i + 1).toNatClampNeg) (q := xs (Int32.ofNat i + 2).toNatClampNeg) hR
                  rw [f1, wd_c_s, if_neg g1, if_neg g2, f2, wd_c_s]
                  exact fin S2 r1 r4
                · rw [if_neg c5]
                  by_cases c6 : c = 6
                  · rw [if_pos c6, if_neg g1]
                    obtain ⟨x, S1, y, S2, f1, f2, r1, r2, r3, r4⟩ := op_make (p := xs (Int32.ofNat i + 1).toNatClampNeg) hR
                    rw [f1, wd_c_s, if_neg g1, f2, wd_c_s]
                    unfold fn_Mo_thrown fn_La_law_379
                    rw [wd_c_s, if_pos r2]
                    by_cases hx9 : x = 0
                    · rw [if_pos hx9, if_neg la_g, if_pos (sm_eq.mpr (show S2.2.1 180 (0 : Int32).toNatClampNeg = y.toInt64 from r3 hx9))]
                      exact fin S2 r1 r4
                    · rw [if_neg hx9]
                      exact fin S2 r1 r4
                  · rw [if_neg c6]
                    by_cases c7 : c = 7
                    · rw [if_pos c7, if_neg g1, if_neg g2]
                      obtain ⟨x, S1, y, S2, f1, f2, r1, -, -, r4⟩ := op_version (p := xs (Int32.ofNat i + 1).toNatClampNeg) (q := xs (Int32.ofNat i + 2).toNatClampNeg) hR
                      rw [f1, wd_c_s, if_neg g1, if_neg g2, f2, wd_c_s]
                      exact fin S2 r1 r4
                    · rw [if_neg c7]
                      by_cases c8 : c = 8
                      · rw [if_pos c8, if_neg g1]
                        obtain ⟨x, S1, y, S2, f1, f2, r1, -, -, r4⟩ := op_told (p := xs (Int32.ofNat i + 1).toNatClampNeg) hR
                        rw [f1, wd_c_s, if_neg g1, f2, wd_c_s]
                        exact fin S2 r1 r4
                      · rw [if_neg c8]
                        by_cases c9 : c = 9
                        · rw [if_pos c9]
                          obtain ⟨x, S1, y, S2, f1, f2, r1, -, -, r4⟩ := op_print hR
                          rw [f1, wd_c_s, f2, wd_c_s]
                          exact fin S2 r1 r4
                        · rw [if_neg c9]
                          by_cases c10 : c = 10
                          · rw [if_pos c10, if_neg g1]
                            obtain ⟨x, S1, y, S2, f1, f2, r1, -, -, r4⟩ := op_out (p := xs (Int32.ofNat i + 1).toNatClampNeg) hR
                            rw [f1, wd_c_s, if_neg g1, f2, wd_c_s]
                            exact fin S2 r1 r4
                          · rw [if_neg c10]
                            by_cases c11 : c = 11
                            · rw [if_pos c11]
                              obtain ⟨x, S1, y, S2, f1, f2, r1, -, -, r4⟩ := op_back hR
                              rw [f1, wd_c_s, f2, wd_c_s]
                              exact fin S2 r1 r4
                            · rw [if_neg c11]
                              by_cases c12 : c = 12
                              · rw [if_pos c12, if_neg g1]
                                obtain ⟨x, S1, y, S2, f1, f2, r1, -, -, r4⟩ := op_give (p := xs (Int32.ofNat i + 1).toNatClampNeg) hR
                                rw [f1, wd_c_s, if_neg g1, f2, wd_c_s]
                                exact fin S2 r1 r4
                              · rw [if_neg c12]
                                by_cases c13 : c = 13
                                · have hrun : ∀ u : Int32, ∃ x S1 y S2, fn_La_run u (xs (Int32.ofNat i + 2).toNatClampNeg) (xs (Int32.ofNat i + 3).toNatClampNeg) S = some (x, S1) ∧ fn_Mo_run u (xs (Int32.ofNat i + 2).toNatClampNeg) (xs (Int32.ofNat i + 3).toNatClampNeg) S1 = some (y, S2) ∧ LX x y S S2 := fun u => op_run hR
                                  rw [if_pos c13, if_neg g1]
                                  unfold fn_La_law_553 fn_La_law_586
                                  by_cases hx : xs (Int32.ofNat i + 1).toNatClampNeg = 0
                                  · rw [if_pos hx, if_neg g2, if_neg g3]
                                    obtain ⟨x, S1, y, S2, f1, f2, r1, -, -, r4⟩ := hrun 0
                                    rw [f1, wd_c_s, if_neg g1, if_pos hx, if_neg g2, if_neg g3, f2, wd_c_s]
                                    exact fin S2 r1 r4
                                  · rw [if_neg hx, if_neg g2, if_neg g3]
                                    obtain ⟨x, S1, y, S2, f1, f2, r1, -, -, r4⟩ := hrun 1
                                    rw [f1, wd_c_s, if_neg g1, if_neg hx, if_neg g2, if_neg g3, f2, wd_c_s]
                                    exact fin S2 r1 r4
                                · rw [if_neg c13]
                                  by_cases c14 : c = 14
                                  · rw [if_pos c14, if_neg g1]
                                    obtain ⟨x, S1, y, S2, f1, f2, r1, -, -, r4⟩ := op_ran (p := xs (Int32.ofNat i + 1).toNatClampNeg) hR
                                    rw [f1, wd_c_s, if_neg g1, f2, wd_c_s]
                                    exact fin S2 r1 r4
                                  · rw [if_neg c14]
                                    exact fin S hR (Nat.le_succ _)
end Lw
theorem lw_fn_ok : lw_fn := fun L xs hL => by
  obtain ⟨S', h1, h2⟩ := lw_go (xs := xs) hL 512 0 wd_F s0_S (by omega) (by rw [show wd_F = 1000000 from rfl]; omega) (by omega) rl_0
  refine ⟨S', h1, ?_⟩
  have : s0_S.2.2.2 = 0 := rfl
  omega
