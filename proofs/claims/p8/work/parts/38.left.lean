/-! The state after the constructors: printed by wip/whole/gen_state.py. What is left to show of the law. -/
def s0_i (a k : Nat) : Int32 := (bif Nat.beq a 1 then (bif Nat.beq k 2 then (-1) else 0) else (bif Nat.beq a 47 then (bif Nat.beq k 4 then (20) else (bif Nat.beq k 12 then (-1) else 0)) else (bif Nat.beq a 135 then (bif Nat.beq k 10 then (-1) else 0) else 0)))
def s0_r (a k : Nat) : Nat := (bif Nat.beq a 1 then (bif Nat.beq k 5 then 11 else (bif Nat.beq k 6 then 29 else (bif Nat.beq k 7 then 54 else (bif Nat.beq k 8 then 79 else 0)))) else (bif Nat.beq a 47 then (bif Nat.beq k 1 then 29 else (bif Nat.beq k 2 then 30 else 0)) else (bif Nat.beq a 104 then (bif Nat.beq k 5 then 11 else (bif Nat.beq k 6 then 12 else 0)) else (bif Nat.beq a 115 then (bif Nat.beq k 1 then 11 else (bif Nat.beq k 2 then 12 else (bif Nat.beq k 3 then 79 else (bif Nat.beq k 4 then 81 else 0)))) else (bif Nat.beq a 128 then (bif Nat.beq k 2 then 54 else (bif Nat.beq k 3 then 56 else 0)) else 0)))))
def s0_S : wd_S := (s0_i, fun _ _ => 0, s0_r, 0)
set_option maxRecDepth 100000 in
theorem s0_e : ∀ a, a < 181 → sy_un (w0_e a) = wd_e s0_S a
  | 0, _ => rfl
  | 1, _ => rfl
  | 2, _ => rfl
  | 3, _ => rfl
  | 4, _ => rfl
  | 5, _ => rfl
  | 6, _ => rfl
  | 7, _ => rfl
  | 8, _ => rfl
  | 9, _ => rfl
  | 10, _ => rfl
  | 11, _ => rfl
  | 12, _ => rfl
  | 13, _ => rfl
  | 14, _ => rfl
  | 15, _ => rfl
  | 16, _ => rfl
  | 17, _ => rfl
  | 18, _ => rfl
  | 19, _ => rfl
  | 20, _ => rfl
  | 21, _ => rfl
  | 22, _ => rfl
  | 23, _ => rfl
  | 24, _ => rfl
  | 25, _ => rfl
  | 26, _ => rfl
  | 27, _ => rfl
  | 28, _ => rfl
  | 29, _ => rfl
  | 30, _ => rfl
  | 31, _ => rfl
  | 32, _ => rfl
  | 33, _ => rfl
  | 34, _ => rfl
  | 35, _ => rfl
  | 36, _ => rfl
  | 37, _ => rfl
  | 38, _ => rfl
  | 39, _ => rfl
  | 40, _ => rfl
  | 41, _ => rfl
  | 42, _ => rfl
  | 43, _ => rfl
  | 44, _ => rfl
  | 45, _ => rfl
  | 46, _ => rfl
  | 47, _ => rfl
  | 48, _ => rfl
  | 49, _ => rfl
  | 50, _ => rfl
  | 51, _ => rfl
  | 52, _ => rfl
  | 53, _ => rfl
  | 54, _ => rfl
  | 55, _ => rfl
  | 56, _ => rfl
  | 57, _ => rfl
  | 58, _ => rfl
  | 59, _ => rfl
  | 60, _ => rfl
  | 61, _ => rfl
  | 62, _ => rfl
  | 63, _ => rfl
  | 64, _ => rfl
  | 65, _ => rfl
  | 66, _ => rfl
  | 67, _ => rfl
  | 68, _ => rfl
  | 69, _ => rfl
  | 70, _ => rfl
  | 71, _ => rfl
  | 72, _ => rfl
  | 73, _ => rfl
  | 74, _ => rfl
  | 75, _ => rfl
  | 76, _ => rfl
  | 77, _ => rfl
  | 78, _ => rfl
  | 79, _ => rfl
  | 80, _ => rfl
  | 81, _ => rfl
  | 82, _ => rfl
  | 83, _ => rfl
  | 84, _ => rfl
  | 85, _ => rfl
  | 86, _ => rfl
  | 87, _ => rfl
  | 88, _ => rfl
  | 89, _ => rfl
  | 90, _ => rfl
  | 91, _ => rfl
  | 92, _ => rfl
  | 93, _ => rfl
  | 94, _ => rfl
  | 95, _ => rfl
  | 96, _ => rfl
  | 97, _ => rfl
  | 98, _ => rfl
  | 99, _ => rfl
  | 100, _ => rfl
  | 101, _ => rfl
  | 102, _ => rfl
  | 103, _ => rfl
  | 104, _ => rfl
  | 105, _ => rfl
  | 106, _ => rfl
  | 107, _ => rfl
  | 108, _ => rfl
  | 109, _ => rfl
  | 110, _ => rfl
  | 111, _ => rfl
  | 112, _ => rfl
  | 113, _ => rfl
  | 114, _ => rfl
  | 115, _ => rfl
  | 116, _ => rfl
  | 117, _ => rfl
  | 118, _ => rfl
  | 119, _ => rfl
  | 120, _ => rfl
  | 121, _ => rfl
  | 122, _ => rfl
  | 123, _ => rfl
  | 124, _ => rfl
  | 125, _ => rfl
  | 126, _ => rfl
  | 127, _ => rfl
  | 128, _ => rfl
  | 129, _ => rfl
  | 130, _ => rfl
  | 131, _ => rfl
  | 132, _ => rfl
  | 133, _ => rfl
  | 134, _ => rfl
  | 135, _ => rfl
  | 136, _ => rfl
  | 137, _ => rfl
  | 138, _ => rfl
  | 139, _ => rfl
  | 140, _ => rfl
  | 141, _ => rfl
  | 142, _ => rfl
  | 143, _ => rfl
  | 144, _ => rfl
  | 145, _ => rfl
  | 146, _ => rfl
  | 147, _ => rfl
  | 148, _ => rfl
  | 149, _ => rfl
  | 150, _ => rfl
  | 151, _ => rfl
  | 152, _ => rfl
  | 153, _ => rfl
  | 154, _ => rfl
  | 155, _ => rfl
  | 156, _ => rfl
  | 157, _ => rfl
  | 158, _ => rfl
  | 159, _ => rfl
  | 160, _ => rfl
  | 161, _ => rfl
  | 162, _ => rfl
  | 163, _ => rfl
  | 164, _ => rfl
  | 165, _ => rfl
  | 166, _ => rfl
  | 167, _ => rfl
  | 168, _ => rfl
  | 169, _ => rfl
  | 170, _ => rfl
  | 171, _ => rfl
  | 172, _ => rfl
  | 173, _ => rfl
  | 174, _ => rfl
  | 175, _ => rfl
  | 176, _ => rfl
  | 177, _ => rfl
  | 178, _ => rfl
  | 179, _ => rfl
  | 180, _ => rfl
  | n + 181, h => absurd h (by omega)
def s0_nh (x : mi_E) : Bool := match x with
  | .inr q => !(q.1 == 2000000)
  | .inl _ => true
set_option maxRecDepth 100000 in
theorem s0_nhs : (List.range 181).all (fun a => s0_nh (w0_e a)) = true := by decide +kernel
theorem s0_same {h : mi_H} (H : sy_h w0 h) : hq_h (wd_k s0_S) h := by
  refine ⟨H.1, H.2.1, fun a ha => ?_⟩
  have ha : a < 181 := ha
  rcases H.2.2 a ha with ⟨e1, -⟩ | ⟨n, f, e1, -⟩
  · rw [e1]
    exact s0_e a ha
  · have h1 := List.all_eq_true.mp s0_nhs a (List.mem_range.mpr ha)
    have e1 : w0_e a = sy_hv n := e1
    simp only [e1] at h1
    exact absurd h1 (by simp [s0_nh, sy_hv])
theorem sy_C_up {xs : Nat → Int32} {ac c c' : mi_C} (h : sy_C xs ac c) (hc : ev_C c c') : sy_C xs ac c' := by
  intro k as A o G hk vs h0 hs H
  obtain ⟨h1, h2, g, h3, h4⟩ := h k as A o G hk vs h0 hs H
  exact ⟨h1, h2, g, hc _ _ _ _ h3, h4⟩
theorem w0_begin (L : Nat) (xs : Nat → Int32) {F D : Nat} (hF : 2000 ≤ F) (hD : 20 ≤ D) : ∃ h : mi_H, sy_h w0 h ∧ ∀ (k : Nat) (r : mi_O × mi_H), mi_run tb_P L xs (mi_call tb_P L xs F D) 0 k 23 w0_l [] h = some r → mi_run tb_P L xs (mi_call tb_P L xs F D) 0 (100 + k) 0 [(0, .ref 0)] [] (1, 0, fun _ => mi_dead) = some r := by
  have h := w0_ok
  unfold w0_chk at h
  split at h
  · next q hq =>
    simp only [Bool.and_eq_true, decide_eq_true_eq] at h
    obtain ⟨e1, e2, e3, e4, e5⟩ := h
    obtain ⟨l', t', h', g1, g2, g3, g4⟩ := sy_to_ok (w0_V_ok L xs) tb_T_ok (sy_C_up (sy_call_ok (w0_V_ok L xs) tb_T_ok 20) (ev_call hF _ _ hD)) 100 0 [(0, .ref 0)] [(0, .ref 0)] [] [] (1, 0, fun _ => mi_dead) (1, 0, fun _ => mi_dead) q hq ⟨.ref 0, [], rfl, rfl, rfl⟩ rfl ⟨rfl, rfl, fun a _ => sy_dead⟩
    rw [e1] at g1
    have e6 := w0_sy_l g1
    subst e6
    have e7 : q.2.1 = [] := List.isEmpty_iff.mp e2
    rw [e7] at g2
    have g2 : t' = [] := g2
    subst g2
    refine ⟨h', ⟨g3.1.trans e3, g3.2.1.trans e4, fun a ha => ?_⟩, fun k r hk => g4 k r hk⟩
    have ha : a < 181 := ha
    have h1 := List.all_eq_true.mp e5 a (List.mem_range.mpr ha)
    have h2 := w0_same_ok h1
    have h3 := g3.2.2 a (by rw [e3]; exact ha)
    rw [h2] at h3
    exact h3
  · cases h
/-- what is left: the law as a function of the typed state -/
def lw_fn : Prop := ∀ (L : Nat) (xs : Nat → Int32), L ≤ 3072 → ∃ S' : wd_S, fn_La_law_23 L xs wd_F 0 s0_S = some (1, S') ∧ S'.2.2.2 ≤ 1000
theorem lw_of_fn (hf : lw_fn) : lw_pure := by
  intro L xs hL
  obtain ⟨S', h1, h2⟩ := hf L xs hL
  obtain ⟨F, hF⟩ := sn_La_law_23 (L := L) (xs := xs) (l4 := 0) wd_F h1
  obtain ⟨hh, H, hgo⟩ := w0_begin L xs (F := F + 2000) (Nat.le_add_left _ _) (D := 208) (by decide)
  have r1 := ev_run (ev_call (show F ≤ F + 2000 by omega) _ _ (Nat.le_refl _)) F (F + 1900) _ _ _ _ _ hF (by omega)
  have r2 := ls_run (F + 1900) _ _ w0_l _ _ _ (ls_sc rfl rfl (ls_sc rfl rfl (ls_sc rfl rfl (ls_sc rfl rfl (ls_sc rfl rfl ls_nil))))) r1
  obtain ⟨g, r3, Hg⟩ := hq_run (hq_call _) _ _ _ _ _ hh _ _ (s0_same H) r2
  have r4 := hgo _ _ r3
  rw [show 100 + (F + 1900) = F + 2000 by omega] at r4
  refine ⟨F + 2000, 208, g, by decide, r4, ?_, ?_⟩
  · rw [Hg.1]
    show tp_c + S'.2.2.2 ≤ _
    unfold tp_c
    omega
  · rw [Hg.2.1]
    show tp_s + 6 * S'.2.2.2 ≤ _
    unfold tp_s
    omega
