/-! The reference's next token. -/
def nx_W (a k : Nat) : Prop := a = 135 ∧ 3 ≤ k ∧ k ≤ 10
theorem nx_269 (v : Int32) (S : wd_S) : fn_Mo_next_269 v S = some (mo_tl (wd_i S 135 4 v)) := by
  unfold fn_Mo_next_269 fn_Mo_next_288 mo_tl
  simp only [wd_b, mo_stop, wd_d_s]
  by_cases h : (wd_i S 135 4 v).1 135 4 = 0
  · rw [if_pos h, if_pos h]
  · rw [if_neg h, if_neg h]
theorem nx_168 (c : Int32) (S : wd_S) : fn_Mo_next_168 c S = some (mo_tl (wd_i S 135 4 (lx_cv (tk_sg c)))) := by
  unfold fn_Mo_next_168
  simp only [nx_269]
  by_cases h61 : c = 61
  · subst h61; rfl
  rw [if_neg h61]
  by_cases h40 : c = 40
  · subst h40; rfl
  rw [if_neg h40]
  by_cases h41 : c = 41
  · subst h41; rfl
  rw [if_neg h41]
  by_cases h44 : c = 44
  · subst h44; rfl
  rw [if_neg h44]
  by_cases h59 : c = 59
  · subst h59; rfl
  rw [if_neg h59]
  by_cases h43 : c = 43
  · subst h43; rfl
  rw [if_neg h43]
  by_cases h45 : c = 45
  · subst h45; rfl
  rw [if_neg h45]
  by_cases h42 : c = 42
  · subst h42; rfl
  rw [if_neg h42]
  by_cases h60 : c = 60
  · subst h60; rfl
  rw [if_neg h60]
  have e : tk_sg c = 19 := by
    unfold tk_sg
    rw [if_neg h40, if_neg h41, if_neg h42, if_neg h43, if_neg h44, if_neg h45, if_neg h59, if_neg h60, if_neg h61]
  rw [e]
  rfl
theorem nx_tl {S : wd_S} (hf : S.1 135 9 = 0) : of_f nx_W S (mo_tl S) ∧ (∀ k, k ≠ 9 → k ≠ 10 → (mo_tl S).1 135 k = S.1 135 k) ∧ (mo_tl S).2 = S.2 ∧ (S.1 135 4 = 0 → (mo_tl S).1 135 9 = 1 ∧ (mo_tl S).1 135 10 = S.1 135 5) ∧ (¬S.1 135 4 = 0 → mo_tl S = S) := by
  unfold mo_tl
  by_cases h : S.1 135 4 = 0
  · rw [if_pos h, if_pos hf]
    refine ⟨of_i (by unfold nx_W; omega) (of_i (by unfold nx_W; omega) of_refl), fun k h1 h2 => ?_, rfl, fun _ => ⟨?_, fr_eq⟩, fun q => absurd h q⟩
    · rw [fr_ne (fun q => h2 q.2), fr_ne (fun q => h1 q.2)]
    · rw [fr_ne (by omega), fr_eq]
  · rw [if_neg h]
    exact ⟨of_refl, fun _ _ _ => rfl, rfl, fun q => absurd q h, fun _ => rfl⟩
theorem fr_self (S : wd_S) (a k : Nat) : wd_i S a k (S.1 a k) = S := by
  have e : (wd_i S a k (S.1 a k)).1 = S.1 := by
    funext b m
    rw [fr_i1]
    by_cases h : b = a ∧ m = k
    · rw [if_pos h, h.1, h.2]
    · rw [if_neg h]
  exact Prod.ext e rfl
theorem nx_cv {T : Nat → Int32} {n p : Nat} (h : lx_cv (tk_k T n p) = 0) : tk_k T n p = 19 := by
  unfold tk_k at h ⊢
  split at h
  · next h1 =>
    rw [if_pos h1]
    split at h
    · exact absurd h (by decide)
    · next h2 =>
      rw [if_neg h2]
      revert h
      unfold tk_sg
      iterate 9 (split; · exact fun h => absurd h (by decide))
      exact fun _ => rfl
  · next h1 =>
    rw [if_neg h1]
    revert h
    unfold lx_k
    split
    · split
      · exact fun _ => rfl
      · exact fun h => absurd h (by decide)
    · split
      · exact fun _ => rfl
      · unfold fo_wk
        iterate 5 (split; · exact fun h => absurd h (by decide))
        exact fun h => absurd h (by decide)
theorem nx_sg (c : Int32) : ¬tk_sg c = 1 ∧ ¬tk_sg c = 2 := by
  unfold tk_sg
  by_cases h40 : c = 40
  · rw [if_pos h40]; decide
  rw [if_neg h40]
  by_cases h41 : c = 41
  · rw [if_pos h41]; decide
  rw [if_neg h41]
  by_cases h42 : c = 42
  · rw [if_pos h42]; decide
  rw [if_neg h42]
  by_cases h43 : c = 43
  · rw [if_pos h43]; decide
  rw [if_neg h43]
  by_cases h44 : c = 44
  · rw [if_pos h44]; decide
  rw [if_neg h44]
  by_cases h45 : c = 45
  · rw [if_pos h45]; decide
  rw [if_neg h45]
  by_cases h59 : c = 59
  · rw [if_pos h59]; decide
  rw [if_neg h59]
  by_cases h60 : c = 60
  · rw [if_pos h60]; decide
  rw [if_neg h60]
  by_cases h61 : c = 61
  · rw [if_pos h61]; decide
  rw [if_neg h61]
  decide
theorem nx_w1 (p : Int64) : ¬fo_wk p = 1 := by
  unfold fo_wk
  by_cases h0 : p = 26982
  · rw [if_pos h0]; decide
  rw [if_neg h0]
  by_cases h1 : p = 26990
  · rw [if_pos h1]; decide
  rw [if_neg h1]
  by_cases h2 : p = 7103860
  · rw [if_pos h2]; decide
  rw [if_neg h2]
  by_cases h3 : p = 1952998766
  · rw [if_pos h3]; decide
  rw [if_neg h3]
  by_cases h4 : p = 1701606245
  · rw [if_pos h4]; decide
  rw [if_neg h4]
  decide
/-- the token at p is told -/
def nx_is (T : Nat → Int32) (n p : Nat) (S S' : wd_S) : Prop := of_f nx_W S S' ∧ S'.1 135 5 = Int32.ofNat p ∧ (p = n → S'.1 135 4 = 23 ∧ S'.1 135 3 = Int32.ofNat n ∧ S'.1 135 6 = S.1 135 6 ∧ S'.1 135 9 = 0 ∧ S'.1 135 10 = S.1 135 10) ∧ (p < n → S'.1 135 4 = lx_cv (tk_k T n p) ∧ S'.1 135 3 = Int32.ofNat (p + tk_z T n p) ∧ S'.1 135 6 = S.1 135 6 + 1 ∧ (tk_k T n p = 2 → S'.2.1 135 7 = tk_v T n p) ∧ (tk_k T n p = 1 → S'.1 135 8 = (tk_v T n p).toInt32) ∧ (tk_k T n p = 19 → S'.1 135 9 = 1 ∧ S'.1 135 10 = Int32.ofNat p) ∧ (¬tk_k T n p = 19 → S'.1 135 9 = 0 ∧ S'.1 135 10 = S.1 135 10))
/-- with kind and place laid, what is left is the fault -/
theorem nx_end {T : Nat → Int32} {n p : Nat} {S S' : wd_S} (hp : p < n) (ho : of_f nx_W S S') (h5 : S'.1 135 5 = Int32.ofNat p) (h4 : S'.1 135 4 = lx_cv (tk_k T n p)) (h3 : S'.1 135 3 = Int32.ofNat (p + tk_z T n p)) (h6 : S'.1 135 6 = S.1 135 6 + 1) (h7 : tk_k T n p = 2 → S'.2.1 135 7 = tk_v T n p) (h8 : tk_k T n p = 1 → S'.1 135 8 = (tk_v T n p).toInt32) (h9 : S'.1 135 9 = 0) (h10 : S'.1 135 10 = S.1 135 10) : nx_is T n p S (mo_tl S') := by
  obtain ⟨e1, e2, e3, e4, e5⟩ := nx_tl h9
  refine ⟨of_trans ho e1, (e2 5 (by decide) (by decide)).trans h5, fun q => by omega, fun _ => ⟨(e2 4 (by decide) (by decide)).trans h4, (e2 3 (by decide) (by decide)).trans h3, (e2 6 (by decide) (by decide)).trans h6, fun q => ?_, fun q => (e2 8 (by decide) (by decide)).trans (h8 q), fun q => ?_, fun q => ?_⟩⟩
  · rw [e3]; exact h7 q
  · have := e4 (by rw [h4, q]; rfl)
    rw [h5] at this
    exact this
  · rw [e5 (fun z => q (nx_cv (h4.symm.trans z)))]
    exact ⟨h9, h10⟩
theorem nx_52 {n p : Nat} {S : wd_S} (hn : S.1 135 2 = Int32.ofNat n) (hp : S.1 135 3 = Int32.ofNat p) (hle : p ≤ n) (h8 : n ≤ 8000) (hf : S.1 135 9 = 0) : ∃ S', fn_Mo_next_52 S = some S' ∧ nx_is (S.1 136) n p S S' := by
  unfold fn_Mo_next_52
  simp only [wd_b]
  have g3 : (wd_i S 135 5 (S.1 135 3)).1 135 3 = Int32.ofNat p := by rw [fr_ne (by omega)]; exact hp
  have g2 : (wd_i S 135 5 (S.1 135 3)).1 135 2 = Int32.ofNat n := by rw [fr_ne (by omega)]; exact hn
  have g6 : (wd_i S 135 5 (S.1 135 3)).1 135 6 = S.1 135 6 := fr_ne (by omega)
  rw [g3, g2, g6, hp]
  by_cases he : p = n
  · rw [if_pos (by rw [he])]
    refine ⟨_, rfl, of_i (by unfold nx_W; omega) (of_i (by unfold nx_W; omega) of_refl), ?_, fun _ => ⟨fr_eq, ?_, ?_, ?_, ?_⟩, fun q => by omega⟩
    · rw [fr_ne (by omega), fr_eq]
    · rw [fr_ne (by omega), fr_ne (by omega), hp, he]
    · rw [fr_ne (by omega), fr_ne (by omega)]
    · rw [fr_ne (by omega), fr_ne (by omega), hf]
    · rw [fr_ne (by omega), fr_ne (by omega)]
  · have hlt : p < n := by omega
    rw [if_neg (fun q => he ((im_eq (by omega) (by omega)).mp q))]
    generalize hS4 : wd_i (wd_i S 135 5 (Int32.ofNat p)) 135 6 (S.1 135 6 + 1) = S4
    have o4 : of_f nx_W S S4 := by rw [← hS4]; exact of_i (by unfold nx_W; omega) (of_i (by unfold nx_W; omega) of_refl)
    have k3 : S4.1 135 3 = Int32.ofNat p := by rw [← hS4, fr_ne (by omega), fr_ne (by omega)]; exact hp
    have k2 : S4.1 135 2 = Int32.ofNat n := by rw [← hS4, fr_ne (by omega), fr_ne (by omega)]; exact hn
    have k5 : S4.1 135 5 = Int32.ofNat p := by rw [← hS4, fr_ne (by omega), fr_eq]
    have k6 : S4.1 135 6 = S.1 135 6 + 1 := by rw [← hS4, fr_eq]
    have k9 : S4.1 135 9 = 0 := by rw [← hS4, fr_ne (by omega), fr_ne (by omega)]; exact hf
    have k10 : S4.1 135 10 = S.1 135 10 := by rw [← hS4, fr_ne (by omega), fr_ne (by omega)]
    have kT : S4.1 136 = S.1 136 := by rw [← hS4, fr_row _ (by decide), fr_row _ (by decide)]
    rw [k3, im_t (show p < 2147483648 by omega), if_neg (show ¬(Int32.ofNat p < 0 ∨ 8000 ≤ p) by rintro (q | q); exact im_neg (by omega) q; omega), fo_moRow, wd_c_s, kT]
    generalize hT : S.1 136 = T
    rw [hT] at kT
    by_cases hr : (T p < 48 ∨ 57 < T p) ∧ (T p < 97 ∨ 122 < T p)
    · rw [if_pos hr, if_pos rfl, k3, im_s]
      have j3 : (wd_i S4 135 3 (Int32.ofNat (p + 1))).1 135 3 = Int32.ofNat (p + 1) := fr_eq
      have j2 : (wd_i S4 135 3 (Int32.ofNat (p + 1))).1 135 2 = Int32.ofNat n := by rw [fr_ne (by omega)]; exact k2
      have jT : (wd_i S4 135 3 (Int32.ofNat (p + 1))).1 136 = T := by rw [fr_row _ (by decide)]; exact kT
      have hsg : ¬(T p = 61 ∧ p + 1 < n ∧ T (p + 1) = 61) → ∃ S', fn_Mo_next_168 (T p) (wd_i S4 135 3 (Int32.ofNat (p + 1))) = some S' ∧ nx_is T n p S S' := by
        intro h2
        have ek : tk_k T n p = tk_sg (T p) := by unfold tk_k; rw [if_pos hr, if_neg h2]
        have ez : tk_z T n p = 1 := by unfold tk_z; rw [if_pos hr, if_neg h2]
        refine ⟨_, nx_168 _ _, nx_end hlt (of_i (by unfold nx_W; omega) (of_i (by unfold nx_W; omega) o4)) ?_ ?_ ?_ ?_ ?_ ?_ ?_ ?_⟩
        · rw [fr_ne (by omega), fr_ne (by omega)]; exact k5
        · rw [fr_eq, ek]
        · rw [fr_ne (by omega), fr_eq, ez]
        · rw [fr_ne (by omega), fr_ne (by omega)]; exact k6
        · intro q
          rw [ek] at q
          exact absurd q (nx_sg _).2
        · intro q
          rw [ek] at q
          exact absurd q (nx_sg _).1
        · rw [fr_ne (by omega), fr_ne (by omega)]; exact k9
        · rw [fr_ne (by omega), fr_ne (by omega)]; exact k10
      by_cases h6 : T p = 61
      · rw [if_pos h6, j3, j2]
        by_cases h7 : p + 1 < n
        · rw [if_pos ((im_lt (by omega) (by omega)).mpr h7), im_t (show p + 1 < 2147483648 by omega), if_neg (show ¬(Int32.ofNat (p + 1) < 0 ∨ 8000 ≤ p + 1) by rintro (q | q); exact im_neg (by omega) q; omega), jT]
          by_cases h9 : T (p + 1) = 61
          · rw [if_pos h9]
            have ek : tk_k T n p = 10 := by unfold tk_k; rw [if_pos hr, if_pos ⟨h6, h7, h9⟩]
            have ez : tk_z T n p = 2 := by unfold tk_z; rw [if_pos hr, if_pos ⟨h6, h7, h9⟩]
            refine ⟨_, rfl, of_i (by unfold nx_W; omega) (of_i (by unfold nx_W; omega) (of_i (by unfold nx_W; omega) o4)), ?_, fun q => by omega, fun _ => ⟨?_, ?_, ?_, ?_, ?_, ?_, fun _ => ⟨?_, ?_⟩⟩⟩
            · rw [fr_ne (by omega), fr_ne (by omega), fr_ne (by omega)]; exact k5
            · rw [fr_eq, ek]; rfl
            · rw [fr_ne (by omega), fr_eq, im_s, ez]
            · rw [fr_ne (by omega), fr_ne (by omega), fr_ne (by omega)]; exact k6
            · intro q; rw [ek] at q; exact absurd q (by decide)
            · intro q; rw [ek] at q; exact absurd q (by decide)
            · intro q; rw [ek] at q; exact absurd q (by decide)
            · rw [fr_ne (by omega), fr_ne (by omega), fr_ne (by omega)]; exact k9
            · rw [fr_ne (by omega), fr_ne (by omega), fr_ne (by omega)]; exact k10
          · rw [if_neg h9]
            have := hsg (fun q => h9 q.2.2)
            rw [h6] at this
            rw [h6]
            exact this
        · rw [if_neg (fun q => h7 ((im_lt (by omega) (by omega)).mp q))]
          have := hsg (fun q => h7 q.2.1)
          rw [h6] at this
          rw [h6]
          exact this
      · rw [if_neg h6]
        exact hsg (fun q => h6 q.1)
    · rw [if_neg hr, if_neg (by decide)]
      have hrow := tk_row T n (n - p) p (by omega)
      have hrl := tk_rl_le T (n - p) p
      have hz : tk_z T n p = tk_rl T (n - p) p := by unfold tk_z; rw [if_neg hr]
      have hz1 := (tk_z_ok (T := T) hlt).1
      have ek : tk_k T n p = lx_k T p (tk_rl T (n - p) p) := by unfold tk_k; rw [if_neg hr]
      have ev : tk_v T n p = lx_v T p (tk_rl T (n - p) p) := by unfold tk_v; rw [if_neg hr]
      have e := lx_ml (S := S4) k2 h8 (by rw [kT]; exact hrow) _ 0 wd_F (Nat.zero_add _) (by rw [show wd_F = 1000000 from rfl]; omega)
      rw [kT] at e
      have e0 : wd_i S4 135 3 (Int32.ofNat (p + 0)) = S4 := by
        rw [Nat.add_zero, ← k3]
        exact fr_self S4 135 3
      rw [e0] at e
      have e : fn_Mo_row S4 = _ := e
      generalize hS7 : wd_i S4 135 3 (Int32.ofNat (p + tk_rl T (n - p) p)) = S7 at e
      have i3 : S7.1 135 3 = Int32.ofNat (p + tk_rl T (n - p) p) := by rw [← hS7, fr_eq]
      have i5 : S7.1 135 5 = Int32.ofNat p := by rw [← hS7, fr_ne (by omega)]; exact k5
      have i6 : S7.1 135 6 = S.1 135 6 + 1 := by rw [← hS7, fr_ne (by omega)]; exact k6
      have i9 : S7.1 135 9 = 0 := by rw [← hS7, fr_ne (by omega)]; exact k9
      have i10 : S7.1 135 10 = S.1 135 10 := by rw [← hS7, fr_ne (by omega)]; exact k10
      have iT : S7.1 136 = T := by rw [← hS7, fr_row _ (by decide)]; exact kT
      have o7 : of_f nx_W S S7 := by rw [← hS7]; exact of_i (by unfold nx_W; omega) o4
      rw [mo_124 i5 i3 (by omega) (by omega), iT] at e
      rw [e, wd_d_s]
      by_cases hd : T p < 48 ∨ 57 < T p
      · have hl : ¬(T p < 97 ∨ 122 < T p) := fun q => hr ⟨hd, q⟩
        rw [if_pos hd]
        refine ⟨_, rfl, nx_end hlt (of_l (by unfold nx_W; omega) (of_i (by unfold nx_W; omega) o7)) ?_ ?_ ?_ ?_ ?_ ?_ ?_ ?_⟩
        · rw [fr_l2, fr_ne (by omega)]; exact i5
        · rw [fr_l2, fr_eq, ek, lx_let hrow (by omega) hl]
        · rw [fr_l2, fr_ne (by omega), hz]; exact i3
        · rw [fr_l2, fr_ne (by omega)]; exact i6
        · intro q
          rw [ek] at q
          rw [fr_l1, if_pos ⟨rfl, rfl⟩, ev]
          unfold lx_v lx_k at *
          rw [if_neg hl] at q ⊢
          by_cases h8 : 8 < tk_rl T (n - p) p
          · rw [if_pos h8] at q; exact absurd q (by decide)
          · rw [if_neg h8]
        · intro q
          rw [ek] at q
          exfalso
          unfold lx_k at q
          rw [if_neg hl] at q
          by_cases h8 : 8 < tk_rl T (n - p) p
          · rw [if_pos h8] at q; exact absurd q (by decide)
          · rw [if_neg h8] at q
            exact nx_w1 _ q
        · rw [fr_l2, fr_ne (by omega)]; exact i9
        · rw [fr_l2, fr_ne (by omega)]; exact i10
      · have hl : T p < 97 ∨ 122 < T p := by
          refine Or.inl (Int32.lt_iff_toInt_lt.mpr ?_)
          have : ¬(57 : Int) < (T p).toInt := fun q => hd (Or.inr (Int32.lt_iff_toInt_lt.mpr q))
          show (T p).toInt < 97
          omega
        obtain ⟨n1, n2⟩ := lx_num (T := T) (a := p) (k := tk_rl T (n - p) p) hl
        rw [if_neg hd]
        refine ⟨_, rfl, nx_end hlt (of_i (by unfold nx_W; omega) (of_i (by unfold nx_W; omega) o7)) ?_ ?_ ?_ ?_ ?_ ?_ ?_ ?_⟩
        · rw [fr_ne (by omega), fr_ne (by omega)]; exact i5
        · rw [fr_ne (by omega), fr_eq, ek, n1]
        · rw [fr_ne (by omega), fr_ne (by omega), hz]; exact i3
        · rw [fr_ne (by omega), fr_ne (by omega)]; exact i6
        · intro q
          rw [ek] at q
          exfalso
          unfold lx_k at q
          rw [if_pos hl] at q
          revert q
          split
          · decide
          · decide
        · intro q
          rw [ek] at q
          rw [fr_eq, ev, n2 q]
        · rw [fr_ne (by omega), fr_ne (by omega)]; exact i9
        · rw [fr_ne (by omega), fr_ne (by omega)]; exact i10
theorem nx_sk {n : Nat} {S : wd_S} (hn : S.1 135 2 = Int32.ofNat n) (h8 : n ≤ 8000) : ∀ (f q g : Nat), q + f = n → f < g → fn_Mo_next_0 g (wd_i S 135 3 (Int32.ofNat q)) = fn_Mo_next_52 (wd_i S 135 3 (Int32.ofNat (tk_sk (S.1 136) f q))) := by
  intro f
  induction f with
  | zero =>
    intro q g hq hg
    obtain ⟨g, rfl⟩ : ∃ z, g = z + 1 := ⟨g - 1, by omega⟩
    rw [fn_Mo_next_0, fr_eq, fr_ne (by omega), hn, if_neg (fun z => by have := (im_lt (by omega) (by omega)).mp z; omega)]
    rfl
  | succ f ih =>
    intro q g hq hg
    obtain ⟨g, rfl⟩ : ∃ z, g = z + 1 := ⟨g - 1, by omega⟩
    have e1 : ¬(Int32.ofNat q < 0 ∨ 8000 ≤ (Int32.ofNat q).toNatClampNeg) := by
      rw [im_t (by omega)]
      rintro (z | z)
      · exact im_neg (by omega) z
      · omega
    have e2 : (wd_i S 135 3 (Int32.ofNat q)).1 136 = S.1 136 := fr_row _ (by decide)
    have e3 : fn_Mo_next_39 (fn_Mo_next_0 g) (wd_i S 135 3 (Int32.ofNat q)) = fn_Mo_next_0 g (wd_i S 135 3 (Int32.ofNat (q + 1))) := by
      unfold fn_Mo_next_39
      simp only [wd_b]
      rw [fr_eq, im_s, fr_ii]
    rw [fn_Mo_next_0, fr_eq, fr_ne (by omega), hn, if_pos ((im_lt (by omega) (by omega)).mpr (by omega)), if_neg e1, im_t (by omega), e2]
    unfold tk_sk
    by_cases h1 : S.1 136 q = 32
    · rw [if_pos h1, if_pos (Or.inl h1), e3]
      exact ih (q + 1) g (by omega) (by omega)
    · rw [im_t (by omega)] at e1
      rw [if_neg h1, if_neg e1]
      by_cases h2 : S.1 136 q = 10
      · rw [if_pos h2, if_pos (Or.inr h2), e3]
        exact ih (q + 1) g (by omega) (by omega)
      · rw [if_neg h2, if_neg (by rintro (z | z); exact h1 z; exact h2 z)]
theorem nx_next {n q : Nat} {S : wd_S} (hn : S.1 135 2 = Int32.ofNat n) (hq : S.1 135 3 = Int32.ofNat q) (hle : q ≤ n) (h8 : n ≤ 8000) (hf : S.1 135 9 = 0) : ∃ S', fn_Mo_next S = some S' ∧ nx_is (S.1 136) n (tk_n (S.1 136) n q) S S' := by
  have e := nx_sk hn h8 (n - q) q wd_F (by omega) (by rw [show wd_F = 1000000 from rfl]; omega)
  have e0 : wd_i S 135 3 (Int32.ofNat q) = S := by rw [← hq]; exact fr_self S 135 3
  rw [e0] at e
  have eT : (wd_i S 135 3 (Int32.ofNat (tk_sk (S.1 136) (n - q) q))).1 136 = S.1 136 := fr_row _ (by decide)
  obtain ⟨S', h1, h2⟩ := nx_52 (S := wd_i S 135 3 (Int32.ofNat (tk_sk (S.1 136) (n - q) q))) (n := n) (p := tk_n (S.1 136) n q) (by rw [fr_ne (by omega)]; exact hn) fr_eq (tk_n_le hle) h8 (by rw [fr_ne (by omega)]; exact hf)
  rw [eT] at h2
  refine ⟨S', (show fn_Mo_next S = fn_Mo_next_0 wd_F S from rfl).trans (e.trans h1), ?_⟩
  obtain ⟨a1, a2, a3, a4⟩ := h2
  refine ⟨of_trans (of_i (by unfold nx_W; omega) of_refl) a1, a2, fun z => ?_, fun z => ?_⟩
  · have := a3 z
    rw [fr_ne (by omega), fr_ne (by omega)] at this
    exact this
  · have := a4 z
    rw [fr_ne (by omega), fr_ne (by omega)] at this
    exact this
