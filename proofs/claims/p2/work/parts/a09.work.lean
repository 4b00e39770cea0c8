/-! The class's runner: work. -/
def cx_W (a k : Nat) : Prop := (a = 104 ∧ 7 ≤ k ∧ k ≤ 12) ∨ a = 106 ∨ a = 108 ∨ a = 110 ∨ a = 112 ∨ a = 114
def cx_R (a k : Nat) : Prop := a = 104 ∧ (k = 5 ∨ k = 6)
section Wk
variable {b L M D0 lim k p : Nat} {P : List tr_T} {S S' S0 S1 S2 : wd_S} {l : List Int32}
theorem cx_42 (hp : (tp_t (p + 1)).2 = 4) (hp2 : p < 104 ∨ 114 < p) : ∀ (r i F : Nat) (S : wd_S), i + r = 4 → (∀ j, j < i → S.1 114 j = S.1 (p + 1) j) → ∃ S', fn_Runner_work_42 (F + r) b (Int32.ofNat k) p (Int32.ofNat i) S = fn_Runner_work_42 F b (Int32.ofNat k) p (Int32.ofNat 4) S' ∧ of_f (fun a k => a = 114) S S' ∧ ∀ j, j < 4 → S'.1 114 j = S.1 (p + 1) j := by
  intro r
  induction r with
  | zero =>
    intro i F S hi h
    have hi : i = 4 := hi
    subst hi
    exact ⟨S, rfl, of_refl, h⟩
  | succ r ih =>
    intro i F S hi h
    show ∃ S', fn_Runner_work_42 (F + r + 1) b (Int32.ofNat k) p (Int32.ofNat i) S = _ ∧ _
    rw [fn_Runner_work_42, if_pos (show Int32.ofNat i < 4 from (im_lt (m := i) (n := 4) (by omega) (by omega)).mpr (by omega)), ro_at_ok, wd_c_s, ro_put_ok, wd_d_s, ro_an hp (show i < 4 by omega), ro_pn cr_114 (show i < 2576 by omega), im_s]
    have o1 : of_f (fun a k => a = 114) S (wd_i S (113 + 1) i (S.1 (p + 1) i)) := of_i rfl of_refl
    obtain ⟨S2, f2, o2, c2⟩ := ih (i + 1) F (wd_i S (113 + 1) i (S.1 (p + 1) i)) (by omega) (fun j hj => by
      by_cases e : j = i
      · rw [e, fr_e (by omega), fr_ne (by omega)]
      · rw [fr_ne (by omega), fr_ne (by omega)]; exact h j (by omega))
    refine ⟨S2, f2, of_trans o1 o2, fun j hj => ?_⟩
    rw [c2 j hj, fr_ne (by omega)]
theorem sp_work (hb : cb_ok b L M) (hM : P.length ≤ M) (hk : k < P.length) (hP : cg_P b L D0 P S) (hlim : lim ≤ 20000) (hp : (tp_t (p + 1)).2 = 4) (hp2 : p < 103 ∨ 114 < p) (hl4 : l.length ≤ 4) (hl : ∀ i, (hi : i < l.length) → S.1 (p + 1) i = l[i]) : match ev P lim 160 (ev_l l) 0 0 P[k] with
    | .error none => True
    | .error (some e) => ∃ S', fn_Runner_work b (Int32.ofNat k) p (Int32.ofNat lim) S = some (e.1, S') ∧ ¬e.1 = 0 ∧ S'.1 104 9 = Int32.ofNat e.2.1 ∧ S'.1 104 10 = Int32.ofNat e.2.2 ∧ of_r cx_W cx_R S S'
    | .ok q => ∃ S', fn_Runner_work b (Int32.ofNat k) p (Int32.ofNat lim) S = some (1, S') ∧ S'.1 104 11 = q.1 ∧ S'.1 104 9 = Int32.ofNat q.2.2.1 ∧ S'.1 104 10 = Int32.ofNat q.2.2.2 ∧ of_r cx_W cx_R S S' := by
  have hb0 := hb
  obtain ⟨hb1, hb2, hb3, hb4, hb5, hb6, hb7⟩ := hb
  generalize hS1 : wd_i (wd_i (wd_i (wd_i (wd_i (wd_r (wd_r S 104 5 b) 104 6 (b + 1)) 104 7 (Int32.ofNat lim)) 104 8 0) 104 9 0) 104 10 0) 104 12 0 = S1
  have ew : fn_Runner_work b (Int32.ofNat k) p (Int32.ofNat lim) S = fn_Runner_work_42 wd_F b (Int32.ofNat k) p 0 S1 := by
    unfold fn_Runner_work fn_Bodies_trees
    simp only [wd_b]
    rw [wd_c_s, if_pos hb3, hS1]
  have o1 : of_r cx_W cx_R S S1 := by
    rw [← hS1]
    exact ofr_i (by unfold cx_W; omega) (ofr_i (by unfold cx_W; omega) (ofr_i (by unfold cx_W; omega) (ofr_i (by unfold cx_W; omega) (ofr_i (by unfold cx_W; omega) (ofr_r (by unfold cx_R; omega) (ofr_r (by unfold cx_R; omega) ofr_refl))))))
  have r5 : S1.2.2.1 104 5 = b := by rw [← hS1]; rfl
  have r6 : S1.2.2.1 104 6 = b + 1 := by rw [← hS1]; rfl
  have v12 : S1.1 104 12 = 0 := by rw [← hS1, fr_eq]
  have v10 : S1.1 104 10 = 0 := by rw [← hS1, fr_ne (by omega), fr_eq]
  have v9 : S1.1 104 9 = 0 := by rw [← hS1, fr_ne (by omega), fr_ne (by omega), fr_eq]
  have v8 : S1.1 104 8 = 0 := by rw [← hS1, fr_ne (by omega), fr_ne (by omega), fr_ne (by omega), fr_eq]
  have v7 : S1.1 104 7 = Int32.ofNat lim := by rw [← hS1, fr_ne (by omega), fr_ne (by omega), fr_ne (by omega), fr_ne (by omega), fr_eq]
  clear hS1
  obtain ⟨S2, f2, o2, c2⟩ := cx_42 (b := b) (k := k) hp (by omega) 4 0 (999995 + 1) S1 rfl (fun j hj => absurd hj (Nat.not_lt_zero _))
  have f2 : fn_Runner_work_42 wd_F b (Int32.ofNat k) p 0 S1 = fn_Runner_work_42 (999995 + 1) b (Int32.ofNat k) p (Int32.ofNat 4) S2 := f2
  have hg : ∀ a, a < 104 → S2.1 a = S.1 a := fun a ha => funext fun j => by rw [o2.1 a j (by omega), o1.1 a j (by unfold cx_W; omega)]
  have hp1 : ∀ j, S1.1 (p + 1) j = S.1 (p + 1) j := fun j => o1.1 (p + 1) j (by unfold cx_W; omega)
  have P2 : cg_P b L D0 P S2 := fun j hj => by
    obtain ⟨y, h1, h2⟩ := hP j hj
    exact ⟨y, by rw [hg (b + 15) (by omega)]; exact h1, nd_t_g (nd_rows (fun a h1 h2 => hg a (by omega))) _ _ _ h2⟩
  obtain ⟨y, h1, h2⟩ := P2 k hk
  have C2 : cr_h b lim 0 0 0 S2 := ⟨by rw [o2.2.2]; exact r5, by rw [o2.2.2]; exact r6, by rw [o2.1 104 7 (by omega)]; exact v7, by rw [o2.1 104 8 (by omega)]; exact v8, by rw [o2.1 104 9 (by omega)]; exact v9, by rw [o2.1 104 10 (by omega)]; exact v10, hlim, by omega, by omega, by omega, by omega⟩
  obtain ⟨S3, f3, c3⟩ := cr_all (lim := lim) (D0 := D0) hb0 hM 160 0 0 (ev_l l) 0 0 y P[k] D0 S2 rfl C2 (by rw [o2.1 104 12 (by omega)]; exact v12) (Nat.le_refl _) (fun i v hi => by
    unfold ev_l at hi
    obtain ⟨q1, q2⟩ := List.getElem?_eq_some_iff.mp hi
    refine ⟨by omega, ?_⟩
    rw [show 16 * 0 + i = i by omega, c2 i (by omega), hp1, hl i q1, q2]) P2 h2
  have e42 : fn_Runner_work b (Int32.ofNat k) p (Int32.ofNat lim) S = fn_Runner_work_82 wd_F (Int32.ofNat 0) S3 := by
    rw [ew, f2, fn_Runner_work_42, if_neg (show ¬Int32.ofNat 4 < 4 by decide), fo_root, wd_c_s, ro_an (r := b + 14) hb5 (show k < M by omega), h1]
    have f3 : fn_Runner_begin (Int32.ofNat y) 0 S2 = some S3 := f3
    rw [f3, wd_d_s]
    rfl
  have o3 : ∀ S4, of_f (cw_W (0 + 1) 0) S2 S4 → of_r cx_W cx_R S S4 := fun S4 o4 => ofr_trans o1 (ofr_trans (ofr_of (fun a k q => by unfold cx_W; omega) o2) (ofr_of (fun a k q => by unfold cw_W at q; unfold cx_W; omega) o4))
  cases hq : ev P lim 160 (ev_l l) 0 0 P[k] with
  | error e =>
    cases e with
    | none => trivial
    | some e =>
      rw [hq] at c3
      obtain ⟨g, j, S4, k1, k2, k3, k4, k5, k6, k7, k8⟩ := c3
      refine ⟨S4, ?_, k4, k6, k7, o3 S4 k8⟩
      have k1 := k1 (wd_F - g - 1 + 1)
      rw [show wd_F - g - 1 + 1 + g = wd_F by rw [show wd_F = 1000000 from rfl]; omega] at k1
      have k1 : fn_Runner_work_82 wd_F (Int32.ofNat 0) S3 = _ := k1
      rw [e42, k1, cr_end (by rw [k5]; exact k4), k5]
  | ok q =>
    rw [hq] at c3
    obtain ⟨g, S4, k1, k2, k3, k4, k5, k6, k7⟩ := c3
    have k5 : S4.1 104 12 = 1 := by rw [k5, if_pos rfl]
    refine ⟨S4, ?_, k4, k3.2.2.2.2.1, k3.2.2.2.2.2.1, o3 S4 k6⟩
    have hs := k3.2.2.2.2.2.2.2.1
    have k1 := k1 (wd_F - g - 1 + 1)
    rw [show wd_F - g - 1 + 1 + g = wd_F by rw [show wd_F = 1000000 from rfl]; omega] at k1
    have k1 : fn_Runner_work_82 wd_F (Int32.ofNat 0) S3 = _ := k1
    rw [e42, k1, cr_end (by rw [k5]; decide), k5]
end Wk
