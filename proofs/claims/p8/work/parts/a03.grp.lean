/-! part a03 -/
section
/-! What a run gives: values, steps, the deepest; or how it ended otherwise; or nothing where a tree isn't as it should be. -/
abbrev ev_V : Type := Nat → Option Int32
abbrev ev_E : Type := Option (Int32 × Nat × Nat)
abbrev ev_O : Type := Int32 × ev_V × Nat × Nat
abbrev ev_P : Type := ev_V → Nat → Nat → tr_T → Except ev_E ev_O
def ev_b {α β : Type} (x : Except ev_E α) (f : α → Except ev_E β) : Except ev_E β := match x with
  | .ok a => f a
  | .error e => .error e
def ev_u (V : ev_V) (s : Nat) (v : Int32) : ev_V := fun i => if i = s then some v else V i
def ev_l (l : List Int32) : ev_V := fun i => l[i]?
def ev_sg (k a b : Int32) : Int32 := if k = 6 then a + b else if k = 7 then a - b else if k = 8 then a * b else if k = 9 then (if a < b then 1 else 0) else if a = b then 1 else 0
def tr_n (t : tr_T) : Nat := (tr_v t).toNatClampNeg
/-- a node as it should be -/
abbrev ev_ok (l : Nat) (t : tr_T) : Prop := tr_k t = 1 ∨ (tr_k t = 2 ∧ tr_v t = Int32.ofNat (tr_n t) ∧ tr_n t < 16) ∨ (tr_k t = 3 ∧ tr_v t = Int32.ofNat (tr_n t) ∧ tr_n t < 16 ∧ tr_a t = 2) ∨ (tr_k t = 4 ∧ tr_a t = 3) ∨ (tr_k t = 5 ∧ tr_a t ≤ 4 ∧ tr_v t = Int32.ofNat (tr_n t) ∧ tr_n t < l) ∨ ((tr_k t = 6 ∨ tr_k t = 7 ∨ tr_k t = 8 ∨ tr_k t = 9 ∨ tr_k t = 10) ∧ tr_a t = 2)
def ev_args (self : ev_P) (t : tr_T) : Nat → Nat → ev_V → Nat → Nat → Except ev_E (List Int32 × ev_V × Nat × Nat)
  | 0, _, V, s, m => .ok ([], V, s, m)
  | r + 1, j, V, s, m => ev_b (self V s m (tr_sub t j)) fun q => ev_b (ev_args self t r (j + 1) q.2.1 q.2.2.1 q.2.2.2) fun w => .ok (q.1 :: w.1, w.2)
def ev_in (P : List tr_T) (self : ev_P) : ev_P := fun V s m t => if ev_ok P.length t then (if tr_k t = 1 then .ok (tr_v t, V, s, m) else if tr_k t = 2 then (match V (tr_n t) with
    | some v => .ok (v, V, s, m)
    | none => .error none) else if tr_k t = 3 then (ev_b (self V s m (tr_sub t 0)) fun q => self (ev_u q.2.1 (tr_n t) q.1) q.2.2.1 q.2.2.2 (tr_sub t 1)) else if tr_k t = 4 then (ev_b (self V s m (tr_sub t 0)) fun q => self q.2.1 q.2.2.1 q.2.2.2 (tr_sub t (if q.1 = 0 then 2 else 1))) else if tr_k t = 5 then (ev_b (ev_args self t (tr_a t) 0 V s m) fun q => ev_b (self (ev_l q.1) q.2.2.1 q.2.2.2 (P.getD (tr_n t) tr_z)) fun w => .ok (w.1, q.2.1, w.2.2)) else (ev_b (self V s m (tr_sub t 0)) fun q => ev_b (self q.2.1 q.2.2.1 q.2.2.2 (tr_sub t 1)) fun w => .ok (ev_sg (tr_k t) q.1 w.1, w.2))) else .error none
/-- an EXPRESSION is begun with room for r more below -/
def ev (P : List tr_T) (lim : Nat) : Nat → ev_P
  | 0 => fun _ s m _ => if lim ≤ s then .error (some (2, s, m)) else .error (some (3, s, m))
  | r + 1 => fun V s m t => if lim ≤ s then .error (some (2, s, m)) else ev_in P (ev P lim r) V (s + 1) (max m (160 - r)) t
end
/-! part a04 -/
section
/-! The class's runner: its state, a round, begin and finish. -/
/-- bodies at b: room for L nodes, for M functions -/
def cb_ok (b L M : Nat) : Prop := b ≤ 80 ∧ tp_t b = (0, 0) ∧ tp_t (b + 1) = (0, 8) ∧ nd_L (b + 1) L ∧ (tp_t (b + 15)).2 = M ∧ L ≤ 1500 ∧ M ≤ 1000
def cg_P (b L D : Nat) (P : List tr_T) (S : wd_S) : Prop := ∀ j, (hj : j < P.length) → ∃ y, S.1 (b + 15) j = Int32.ofNat y ∧ nd_t (b + 1) S 0 L D y P[j]
def cr_h (b lim D s m : Nat) (S : wd_S) : Prop := S.2.2.1 104 5 = b ∧ S.2.2.1 104 6 = b + 1 ∧ S.1 104 7 = Int32.ofNat lim ∧ S.1 104 8 = Int32.ofNat D ∧ S.1 104 9 = Int32.ofNat s ∧ S.1 104 10 = Int32.ofNat m ∧ lim ≤ 20000 ∧ s ≤ lim ∧ m ≤ 160 ∧ D ≤ 160 ∧ D ≤ s
def cw_W (D fr a k : Nat) : Prop := (a = 104 ∧ 8 ≤ k ∧ k ≤ 12) ∨ ((a = 106 ∨ a = 108 ∨ a = 110 ∨ a = 112) ∧ D ≤ k) ∨ (a = 114 ∧ ((16 * fr ≤ k ∧ k < 16 * fr + 16) ∨ 16 * D ≤ k))
def cv_e (fr : Nat) (V : ev_V) (S : wd_S) : Prop := ∀ s v, V s = some v → s < 16 ∧ S.1 114 (16 * fr + s) = v
def cr_go (g s D s' D' : Nat) (S S' : wd_S) : Prop := ∀ F, fn_Runner_work_82 (F + g) (Int32.ofNat (2 * s - 1 - D)) S = fn_Runner_work_82 F (Int32.ofNat (2 * s' - 1 - D')) S'
section Cr
variable {b L M D0 lim D s m y z fr d g : Nat} {P : List tr_T} {S S' S1 : wd_S} {V : ev_V} {t : tr_T} {v : Int32}
theorem cr_106 : (tp_t (105 + 1)).2 = 161 := rfl
theorem cr_108 : (tp_t (107 + 1)).2 = 161 := rfl
theorem cr_110 : (tp_t (109 + 1)).2 = 161 := rfl
theorem cr_112 : (tp_t (111 + 1)).2 = 161 := rfl
theorem cr_114 : (tp_t (113 + 1)).2 = 2576 := rfl
theorem cr_rows {W : Nat → Nat → Prop} (hb : cb_ok b L M) (ho : of_f W S S') (hW : ∀ a k, a ≤ 103 → ¬W a k) : ∀ a, b ≤ a → a ≤ b + 20 → S'.1 a = S.1 a := fun a h1 h2 => funext fun k => ho.1 a k (hW a k (by have := hb.1; omega))
theorem cg_o {W : Nat → Nat → Prop} (hb : cb_ok b L M) (ho : of_f W S S') (hW : ∀ a k, a ≤ 103 → ¬W a k) (h : cg_P b L D0 P S) : cg_P b L D0 P S' := fun j hj => by
  obtain ⟨y, h1, h2⟩ := h j hj
  have hr := cr_rows hb ho hW
  exact ⟨y, by rw [hr (b + 15) (by omega) (by omega)]; exact h1, nd_t_g (nd_rows (fun a h1 h2 => hr a (by omega) (by omega))) _ _ _ h2⟩
theorem ct_o {W : Nat → Nat → Prop} (hb : cb_ok b L M) (ho : of_f W S S') (hW : ∀ a k, a ≤ 103 → ¬W a k) (h : nd_t (b + 1) S 0 L d y t) : nd_t (b + 1) S' 0 L d y t := nd_t_g (nd_rows (fun a h1 h2 => cr_rows hb ho hW a (by omega) (by omega))) _ _ _ h
theorem cw_103 : ∀ a k, a ≤ 103 → ¬cw_W D fr a k := fun a k h => by unfold cw_W; omega
theorem cw_le {D' fr' : Nat} (h : D ≤ D') (hf : fr' = fr ∨ D ≤ fr') : ∀ a k, cw_W D' fr' a k → cw_W D fr a k := fun a k h => by
  unfold cw_W at h ⊢
  rcases h with h | h | h
  · exact Or.inl h
  · exact Or.inr (Or.inl ⟨h.1, by omega⟩)
  · refine Or.inr (Or.inr ⟨h.1, ?_⟩)
    rcases hf with e | e
    · rw [e] at h; omega
    · omega
/-- a round begins -/
theorem cr_round (hb : cb_ok b L M) (h : cr_h b lim D s m S) (h12 : S.1 104 12 = 0) (hD : 1 ≤ D) (h106 : S.1 106 D = Int32.ofNat y) {τ : Nat} (h108 : S.1 108 D = Int32.ofNat τ) (hy : y < L) (F : Nat) : fn_Runner_work_82 (F + 1) (Int32.ofNat (2 * s - 1 - D)) S = wd_d (if S.1 (b + 3) y = 1 then fn_Runner_finish (S.1 (b + 5) y) (wd_i S 108 D (Int32.ofNat (τ + 1))) else if S.1 (b + 3) y = 2 then fn_Runner_finish (ro_at 113 (S.1 112 D * 16 + S.1 (b + 5) y) S) (wd_i S 108 D (Int32.ofNat (τ + 1))) else if S.1 (b + 3) y = 3 then fn_Runner_goOnLet (Int32.ofNat y) (Int32.ofNat τ) (wd_i S 108 D (Int32.ofNat (τ + 1))) else if S.1 (b + 3) y = 4 then fn_Runner_goOnIf (Int32.ofNat y) (Int32.ofNat τ) (wd_i S 108 D (Int32.ofNat (τ + 1))) else if S.1 (b + 3) y = 5 then fn_Runner_goOnCall (Int32.ofNat y) (Int32.ofNat τ) (wd_i S 108 D (Int32.ofNat (τ + 1))) else fn_Runner_goOnSign (Int32.ofNat y) (Int32.ofNat τ) (wd_i S 108 D (Int32.ofNat (τ + 1)))) (fn_Runner_work_82 F (Int32.ofNat (2 * s - 1 - D + 1))) := by
  obtain ⟨hb1, hb2, hb3, ⟨g2, g4, g6, g8, g10, g12⟩, hb5, hb6, hb7⟩ := hb
  obtain ⟨a1, a2, a3, a4, a5, a6, a7, a8, a9, a10, a11⟩ := h
  rw [fn_Runner_work_82, if_pos (show Int32.ofNat (2 * s - 1 - D) < 40000 from (im_lt (n := 40000) (by omega) (by omega)).mpr (by omega)), if_pos h12, a4, ro_at_ok, wd_c_s, a4, ro_at_ok, wd_c_s, a4, ro_put_ok, wd_d_s, ro_an cr_106 (show D < 161 by omega), ro_an cr_108 (show D < 161 by omega), ro_pn cr_108 (show D < 161 by omega), h106, h108, im_s]
  have e6 : (wd_i S 108 D (Int32.ofNat (τ + 1))).2.2.1 104 6 = b + 1 := by rw [fr_i2]; exact a2
  have e8 : (wd_i S 108 D (Int32.ofNat (τ + 1))).1 104 8 = Int32.ofNat D := by rw [fr_ne (by omega)]; exact a4
  have r3 : ro_at (b + 1 + 1) (Int32.ofNat y) (wd_i S 108 D (Int32.ofNat (τ + 1))) = S.1 (b + 3) y := by rw [ro_an (r := b + 1 + 1) g2 hy, fr_ne (by omega)]
  have r5 : ro_at (b + 1 + 3) (Int32.ofNat y) (wd_i S 108 D (Int32.ofNat (τ + 1))) = S.1 (b + 5) y := by rw [ro_an (r := b + 1 + 3) g4 hy, fr_ne (by omega)]
  have r112 : ro_at 111 (Int32.ofNat D) (wd_i S 108 D (Int32.ofNat (τ + 1))) = S.1 112 D := by rw [ro_an cr_112 (show D < 161 by omega), fr_ne (by omega)]
  have r114 : ∀ i, ro_at 113 i (wd_i S 108 D (Int32.ofNat (τ + 1))) = ro_at 113 i S := fun i => fr_at _ _ (fr_row _ (by decide))
  have hk : ∀ (o : Option wd_S), wd_d o (fun S => fn_Runner_work_264 (fn_Runner_work_82 F) (Int32.ofNat (2 * s - 1 - D)) S) = wd_d o (fn_Runner_work_82 F (Int32.ofNat (2 * s - 1 - D + 1))) := fun o => by
    unfold fn_Runner_work_264
    rw [im_s]
  rw [e6, if_pos hb3, fo_tkind, wd_c_s, r3]
  by_cases c1 : S.1 (b + 3) y = 1
  · rw [if_pos c1, if_pos c1, e6, if_pos hb3, fo_tvalue, wd_c_s, r5, hk]
  · rw [if_neg c1, if_neg c1]
    by_cases c2 : S.1 (b + 3) y = 2
    · rw [if_pos c2, if_pos c2, e6, if_pos hb3, fo_tvalue, wd_c_s, r5]
      unfold fn_Runner_slot
      rw [e8, ro_at_ok, wd_c_s, r112, wd_c_s, ro_at_ok, wd_c_s, r114, hk]
    · rw [if_neg c2, if_neg c2]
      by_cases c3 : S.1 (b + 3) y = 3
      · rw [if_pos c3, if_pos c3, hk]
      · rw [if_neg c3, if_neg c3]
        by_cases c4 : S.1 (b + 3) y = 4
        · rw [if_pos c4, if_pos c4, hk]
        · rw [if_neg c4, if_neg c4]
          by_cases c5 : S.1 (b + 3) y = 5
          · rw [if_pos c5, if_pos c5, hk]
          · rw [if_neg c5, if_neg c5, hk]
/-- the runner has ended -/
theorem cr_end {F : Nat} {i : Int32} (h : ¬S.1 104 12 = 0) : fn_Runner_work_82 (F + 1) i S = some (S.1 104 12, S) := by
  rw [fn_Runner_work_82, if_neg h, ite_self]
  rfl
theorem cr_fin (h : cr_h b lim D s m S) (h12 : S.1 104 12 = 0) (hD : 1 ≤ D) : ∃ S', fn_Runner_finish v S = some S' ∧ cr_h b lim (D - 1) s m S' ∧ S'.1 104 11 = v ∧ S'.1 104 12 = (if D - 1 = 0 then 1 else 0) ∧ of_f (fun a k => a = 104 ∧ (k = 8 ∨ k = 11 ∨ k = 12)) S S' := by
  obtain ⟨a1, a2, a3, a4, a5, a6, a7, a8, a9, a10, a11⟩ := h
  unfold fn_Runner_finish fn_Runner_finish_27
  simp only [wd_b]
  have e8 : (wd_i S 104 11 v).1 104 8 = Int32.ofNat D := by rw [fr_ne (by omega)]; exact a4
  obtain ⟨D, rfl⟩ : ∃ q, D = q + 1 := ⟨D - 1, by omega⟩
  rw [e8, im_p, fr_eq]
  generalize hS2 : wd_i (wd_i S 104 11 v) 104 8 (Int32.ofNat D) = S2
  have o2 : of_f (fun a k => a = 104 ∧ (k = 8 ∨ k = 11)) S S2 := by rw [← hS2]; exact of_i (by omega) (of_i (by omega) of_refl)
  have v8 : S2.1 104 8 = Int32.ofNat D := by rw [← hS2, fr_eq]
  have v11 : S2.1 104 11 = v := by rw [← hS2, fr_ne (by omega), fr_eq]
  have cr : ∀ S3, of_f (fun a k => a = 104 ∧ k = 12) S2 S3 → cr_h b lim (D + 1 - 1) s m S3 ∧ S3.1 104 11 = v := fun S3 o3 => by
    have e : ∀ k, k ≠ 12 → k ≠ 8 → k ≠ 11 → S3.1 104 k = S.1 104 k := fun k h1 h2 h3 => by rw [o3.1 104 k (by omega), o2.1 104 k (by omega)]
    have er : S3.2.2 = S.2.2 := o3.2.2.trans o2.2.2
    exact ⟨⟨by rw [er]; exact a1, by rw [er]; exact a2, (e 7 (by decide) (by decide) (by decide)).trans a3, by rw [o3.1 104 8 (by omega)]; exact v8, (e 9 (by decide) (by decide) (by decide)).trans a5, (e 10 (by decide) (by decide) (by decide)).trans a6, a7, a8, a9, by omega, by omega⟩, by rw [o3.1 104 11 (by omega)]; exact v11⟩
  by_cases hz : D = 0
  · rw [if_pos (show Int32.ofNat D = 0 by rw [hz]; rfl)]
    have o3 : of_f (fun a k => a = 104 ∧ k = 12) S2 (wd_i S2 104 12 1) := of_i ⟨rfl, rfl⟩ of_refl
    obtain ⟨c1, c2⟩ := cr _ o3
    refine ⟨_, rfl, c1, c2, ?_, of_trans (of_mono (fun a b z => by omega) o2) (of_mono (fun a b z => by omega) o3)⟩
    rw [fr_eq, if_pos (by omega)]
  · rw [if_neg (show ¬Int32.ofNat D = 0 from fun q => hz ((im_eq (m := D) (n := 0) (by omega) (by omega)).mp q))]
    obtain ⟨c1, c2⟩ := cr S2 of_refl
    refine ⟨_, rfl, c1, c2, ?_, of_mono (fun a b z => by omega) o2⟩
    rw [if_neg (by omega), o2.1 104 12 (by omega)]
    exact h12
def cr_bg (b lim D s m z fr : Nat) (S' : wd_S) : Prop := if lim ≤ s then S'.1 104 12 = 2 ∧ S'.1 104 9 = Int32.ofNat s ∧ S'.1 104 10 = Int32.ofNat m else if D = 160 then S'.1 104 12 = 3 ∧ S'.1 104 9 = Int32.ofNat s ∧ S'.1 104 10 = Int32.ofNat m else cr_h b lim (D + 1) (s + 1) (max m (D + 1)) S' ∧ S'.1 104 12 = 0 ∧ S'.1 106 (D + 1) = Int32.ofNat z ∧ S'.1 108 (D + 1) = Int32.ofNat 0 ∧ S'.1 112 (D + 1) = Int32.ofNat fr
/-- an EXPRESSION is begun, or the run ends -/
theorem cr_beg (h : cr_h b lim D s m S) (h12 : S.1 104 12 = 0) : ∃ S', fn_Runner_begin (Int32.ofNat z) (Int32.ofNat fr) S = some S' ∧ of_f (fun a k => (a = 104 ∧ (k = 8 ∨ k = 9 ∨ k = 10 ∨ k = 12)) ∨ ((a = 106 ∨ a = 108 ∨ a = 112) ∧ k = D + 1)) S S' ∧ cr_bg b lim D s m z fr S' := by
  obtain ⟨a1, a2, a3, a4, a5, a6, a7, a8, a9, a10, a11⟩ := h
  unfold fn_Runner_begin
  simp only [wd_b]
  rw [a5, a3, a4]
  by_cases c1 : lim ≤ s
  · rw [if_neg (fun q => by have := (im_lt (by omega) (by omega)).mp q; omega)]
    refine ⟨_, rfl, of_i (by omega) of_refl, ?_⟩
    unfold cr_bg
    rw [if_pos c1]
    exact ⟨fr_eq, by rw [fr_ne (by omega)]; exact a5, by rw [fr_ne (by omega)]; exact a6⟩
  · rw [if_pos ((im_lt (by omega) (by omega)).mpr (by omega))]
    by_cases c2 : D = 160
    · rw [if_neg (fun q => by have := (im_lt (m := D) (n := 160) (by omega) (by omega)).mp q; omega)]
      refine ⟨_, rfl, of_i (by omega) of_refl, ?_⟩
      unfold cr_bg
      rw [if_neg c1, if_pos c2]
      exact ⟨fr_eq, by rw [fr_ne (by omega)]; exact a5, by rw [fr_ne (by omega)]; exact a6⟩
    · rw [if_pos (show Int32.ofNat D < 160 from (im_lt (m := D) (n := 160) (by omega) (by omega)).mpr (by omega)), im_s, show (wd_i S 104 9 (Int32.ofNat (s + 1))).1 104 8 = Int32.ofNat D by rw [fr_ne (by omega)]; exact a4, im_s]
      generalize hS2 : wd_i (wd_i S 104 9 (Int32.ofNat (s + 1))) 104 8 (Int32.ofNat (D + 1)) = S2
      have o2 : of_f (fun a k => a = 104 ∧ (k = 8 ∨ k = 9)) S S2 := by rw [← hS2]; exact of_i (by omega) (of_i (by omega) of_refl)
      have v8 : S2.1 104 8 = Int32.ofNat (D + 1) := by rw [← hS2, fr_eq]
      have v9 : S2.1 104 9 = Int32.ofNat (s + 1) := by rw [← hS2, fr_ne (by omega), fr_eq]
      have emax : fn_Math_max (Int32.ofNat m) (Int32.ofNat (D + 1)) S2 = some (Int32.ofNat (max m (D + 1)), S2) := by
        unfold fn_Math_max fn_Math_max_10
        by_cases c : m < D + 1
        · rw [if_pos ((im_lt (by omega) (by omega)).mpr c), show max m (D + 1) = D + 1 by omega]
        · rw [if_neg (fun q => c ((im_lt (by omega) (by omega)).mp q)), show max m (D + 1) = m by omega]
      rw [v8, o2.1 104 10 (by omega), a6, emax, wd_c_s]
      have w8 : ∀ x, (wd_i S2 104 10 x).1 104 8 = Int32.ofNat (D + 1) := fun x => by rw [fr_ne (by omega)]; exact v8
      rw [w8, ro_put_ok, wd_d_s, ro_pn cr_106 (show D + 1 < 161 by omega)]
      have w8' : ∀ x x', (wd_i (wd_i S2 104 10 x) (105 + 1) (D + 1) x').1 104 8 = Int32.ofNat (D + 1) := fun x x' => by rw [fr_ne (by omega)]; exact w8 x
      rw [w8', ro_put_ok, wd_d_s, ro_pn cr_108 (show D + 1 < 161 by omega)]
      have w8'' : ∀ x x' x'', (wd_i (wd_i (wd_i S2 104 10 x) (105 + 1) (D + 1) x') (107 + 1) (D + 1) x'').1 104 8 = Int32.ofNat (D + 1) := fun x x' x'' => by rw [fr_ne (by omega)]; exact w8' x x'
      rw [w8'', ro_put_ok, wd_d_s, ro_pn cr_112 (show D + 1 < 161 by omega)]
      generalize hS3 : wd_i (wd_i (wd_i (wd_i S2 104 10 (Int32.ofNat (max m (D + 1)))) (105 + 1) (D + 1) (Int32.ofNat z)) (107 + 1) (D + 1) 0) (111 + 1) (D + 1) (Int32.ofNat fr) = S3
      have o3 : of_f (fun a k => (a = 104 ∧ k = 10) ∨ ((a = 106 ∨ a = 108 ∨ a = 112) ∧ k = D + 1)) S2 S3 := by
        rw [← hS3]
        exact of_i (by omega) (of_i (by omega) (of_i (by omega) (of_i (by omega) of_refl)))
      have er : S3.2.2 = S.2.2 := o3.2.2.trans o2.2.2
      refine ⟨S3, rfl, of_trans (of_mono (fun a b z => by omega) o2) (of_mono (fun a b z => by omega) o3), ?_⟩
      unfold cr_bg
      rw [if_neg c1, if_neg c2]
      refine ⟨⟨by rw [er]; exact a1, by rw [er]; exact a2, by rw [o3.1 104 7 (by omega), o2.1 104 7 (by omega)]; exact a3, by rw [o3.1 104 8 (by omega)]; exact v8, by rw [o3.1 104 9 (by omega)]; exact v9, ?_, a7, by omega, by omega, by omega, by omega⟩, by rw [o3.1 104 12 (by omega), o2.1 104 12 (by omega)]; exact h12, ?_, ?_, ?_⟩
      · rw [← hS3, fr_ne (by omega), fr_ne (by omega), fr_ne (by omega), fr_eq]
      · rw [← hS3, fr_ne (by omega), fr_ne (by omega), fr_e (by omega)]
      · rw [← hS3, fr_ne (by omega), fr_e (by omega)]; rfl
      · rw [← hS3, fr_e (by omega)]
end Cr
end
/-! part a05 -/
section
/-! The class's runner: what comes of an EXPRESSION. -/
def cr_O (b lim D fr : Nat) (W : Nat → Nat → Prop) (x : Except ev_E ev_O) (i : Nat) (S0 S1 : wd_S) : Prop := match x with
  | .error none => True
  | .error (some e) => ∃ g j S', (∀ F, fn_Runner_work_82 (F + g) (Int32.ofNat i) S1 = fn_Runner_work_82 F (Int32.ofNat j) S') ∧ i + g ≤ 2 * e.2.1 ∧ e.2.1 ≤ lim ∧ ¬e.1 = 0 ∧ S'.1 104 12 = e.1 ∧ S'.1 104 9 = Int32.ofNat e.2.1 ∧ S'.1 104 10 = Int32.ofNat e.2.2 ∧ of_f W S0 S'
  | .ok q => ∃ g S', (∀ F, fn_Runner_work_82 (F + g) (Int32.ofNat i) S1 = fn_Runner_work_82 F (Int32.ofNat (2 * q.2.2.1 - 1 - D)) S') ∧ i + g = 2 * q.2.2.1 - 1 - D ∧ cr_h b lim D q.2.2.1 q.2.2.2 S' ∧ S'.1 104 11 = q.1 ∧ S'.1 104 12 = (if D = 0 then 1 else 0) ∧ of_f W S0 S' ∧ cv_e fr q.2.1 S'
def cr_S (b lim L D0 : Nat) (P : List tr_T) (r : Nat) : Prop := ∀ (D fr : Nat) (V : ev_V) (s m z : Nat) (t : tr_T) (d : Nat) (S : wd_S), D + r = 160 → cr_h b lim D s m S → S.1 104 12 = 0 → fr ≤ D → cv_e fr V S → cg_P b L D0 P S → nd_t (b + 1) S 0 L d z t → ∃ S1, fn_Runner_begin (Int32.ofNat z) (Int32.ofNat fr) S = some S1 ∧ cr_O b lim D fr (cw_W (D + 1) fr) (ev P lim r V s m t) (2 * s - D) S S1
theorem ev_b_a {α β γ : Type} (x : Except ev_E α) (f : α → Except ev_E β) (g : β → Except ev_E γ) : ev_b (ev_b x f) g = ev_b x (fun a => ev_b (f a) g) := by cases x <;> rfl
section Cr2
variable {b L M D0 lim D s m y z fr fr' d g i D' τ r : Nat} {P : List tr_T} {S S' S0 S1 S2 : wd_S} {V V' : ev_V} {t : tr_T} {v x : Int32} {W W1 W2 : Nat → Nat → Prop}
theorem cr_bind {y : Except ev_E ev_O} {f : ev_O → Except ev_E ev_O} (h : cr_O b lim D fr W1 y i S0 S1) (hf : ∀ (q : ev_O) (S' : wd_S), cr_h b lim D q.2.2.1 q.2.2.2 S' → S'.1 104 11 = q.1 → S'.1 104 12 = (if D = 0 then 1 else 0) → of_f W1 S0 S' → cv_e fr q.2.1 S' → cr_O b lim D' fr' W2 (f q) (2 * q.2.2.1 - 1 - D) S' S') (w1 : ∀ a k, W1 a k → W a k) (w2 : ∀ a k, W2 a k → W a k) : cr_O b lim D' fr' W (ev_b y f) i S0 S1 := by
  cases y with
  | error e =>
    cases e with
    | none => trivial
    | some e =>
      obtain ⟨g, j, S', h1, h2, h3, h4, h5, h6, h7, h8⟩ := h
      exact ⟨g, j, S', h1, h2, h3, h4, h5, h6, h7, of_mono w1 h8⟩
  | ok q =>
    obtain ⟨g, S', h1, h2, h3, h4, h5, h6, h7⟩ := h
    have hq := hf q S' h3 h4 h5 h6 h7
    show cr_O b lim D' fr' W (f q) i S0 S1
    unfold cr_O at hq ⊢
    split at hq
    · trivial
    · obtain ⟨g', j, S'', k1, k2, k3, k4, k5, k6, k7, k8⟩ := hq
      exact ⟨g + g', j, S'', fun F => by rw [show F + (g + g') = F + g' + g by omega, h1, k1], by omega, k3, k4, k5, k6, k7, of_trans (of_mono w1 h6) (of_mono w2 k8)⟩
    · obtain ⟨g', S'', k1, k2, k3, k4, k5, k6, k7⟩ := hq
      exact ⟨g + g', S'', fun F => by rw [show F + (g + g') = F + g' + g by omega, h1, k1], by omega, k3, k4, k5, of_trans (of_mono w1 h6) (of_mono w2 k6), k7⟩
theorem cv_o (ho : of_f W S S') (hW : ∀ k, 16 * fr ≤ k → k < 16 * fr + 16 → ¬W 114 k) (h : cv_e fr V S) : cv_e fr V S' := fun s v hs => by
  obtain ⟨h1, h2⟩ := h s v hs
  exact ⟨h1, by rw [ho.1 114 _ (hW _ (by omega) (by omega))]; exact h2⟩
theorem cr_h_o (h : cr_h b lim D s m S) (ho : of_f W S S') (hW : ∀ k, 7 ≤ k → k ≤ 10 → ¬W 104 k) : cr_h b lim D s m S' := by
  obtain ⟨a1, a2, a3, a4, a5, a6, a7⟩ := h
  exact ⟨by rw [ho.2.2]; exact a1, by rw [ho.2.2]; exact a2, (ho.1 104 7 (hW 7 (by omega) (by omega))).trans a3, (ho.1 104 8 (hW 8 (by omega) (by omega))).trans a4, (ho.1 104 9 (hW 9 (by omega) (by omega))).trans a5, (ho.1 104 10 (hW 10 (by omega) (by omega))).trans a6, a7⟩
/-- a round that finishes -/
theorem cr_fin1 (h : cr_h b lim D s m S) (h12 : S.1 104 12 = 0) (hD : 1 ≤ D) (hfr : fr < D) (hr : ∀ F, fn_Runner_work_82 (F + 1) (Int32.ofNat (2 * s - 1 - D)) S = wd_d (fn_Runner_finish v (wd_i S 108 D x)) (fn_Runner_work_82 F (Int32.ofNat (2 * s - 1 - D + 1)))) (hv : cv_e fr V S) : cr_O b lim (D - 1) fr (cw_W D fr) (.ok (v, V, s, m)) (2 * s - 1 - D) S S := by
  have o1 : of_f (fun a k => a = 108 ∧ k = D) S (wd_i S 108 D x) := of_i ⟨rfl, rfl⟩ of_refl
  have h1 := cr_h_o h o1 (fun k _ _ => by omega)
  obtain ⟨S2, f2, c2, v2, e2, o2⟩ := cr_fin (v := v) h1 (by rw [o1.1 104 12 (by omega)]; exact h12) hD
  have hs := h.2.2.2.2.2.2.2.2.2.2
  refine ⟨1, S2, fun F => ?_, ?_, c2, v2, e2, of_trans (of_mono (fun a k z => by unfold cw_W; omega) o1) (of_mono (fun a k z => by unfold cw_W; omega) o2), cv_o (of_trans (of_mono (fun a k z => Or.inl z) o1) (of_mono (fun a k z => Or.inr z) o2)) (fun k _ _ => by omega) hv⟩
  · rw [hr, f2, wd_d_s]
    show fn_Runner_work_82 F (Int32.ofNat (2 * s - 1 - D + 1)) S2 = fn_Runner_work_82 F (Int32.ofNat (2 * s - 1 - (D - 1))) S2
    rw [show 2 * s - 1 - D + 1 = 2 * s - 1 - (D - 1) by omega]
  · show 2 * s - 1 - D + 1 = 2 * s - 1 - (D - 1)
    omega
/-- a round that begins a part -/
theorem cr_sub1 (hS : cr_S b lim L D0 P r) (hDr : D + r = 160) (h : cr_h b lim D s m S) (hD : 1 ≤ D) (o2 : of_f W1 S S2) (hW1 : ∀ k, 7 ≤ k → k ≤ 12 → ¬W1 104 k) (h12 : S.1 104 12 = 0) (hr : ∀ F, fn_Runner_work_82 (F + 1) (Int32.ofNat (2 * s - 1 - D)) S = wd_d (fn_Runner_begin (Int32.ofNat z) (Int32.ofNat fr) S2) (fn_Runner_work_82 F (Int32.ofNat (2 * s - 1 - D + 1)))) (hfr : fr ≤ D) (hv : cv_e fr V S2) (hP : cg_P b L D0 P S2) (ht : nd_t (b + 1) S2 0 L d z t) (w1 : ∀ a k, W1 a k → W a k) (w2 : ∀ a k, cw_W (D + 1) fr a k → W a k) : cr_O b lim D fr W (ev P lim r V s m t) (2 * s - 1 - D) S S := by
  obtain ⟨S3, f3, c3⟩ := hS D fr V s m z t d S2 hDr (cr_h_o h o2 (fun k _ _ => hW1 k (by omega) (by omega))) (by rw [o2.1 104 12 (hW1 12 (by omega) (by omega))]; exact h12) hfr hv hP ht
  have hs := h.2.2.2.2.2.2.2.2.2.2
  have e : ∀ F, fn_Runner_work_82 (F + 1) (Int32.ofNat (2 * s - 1 - D)) S = fn_Runner_work_82 F (Int32.ofNat (2 * s - D)) S3 := fun F => by
    rw [hr, f3, wd_d_s, show 2 * s - 1 - D + 1 = 2 * s - D by omega]
  unfold cr_O at c3 ⊢
  split at c3
  · trivial
  · obtain ⟨g', j, S'', k1, k2, k3, k4, k5, k6, k7, k8⟩ := c3
    exact ⟨g' + 1, j, S'', fun F => by rw [← Nat.add_assoc, e, k1], by omega, k3, k4, k5, k6, k7, of_trans (of_mono w1 o2) (of_mono w2 k8)⟩
  · obtain ⟨g', S'', k1, k2, k3, k4, k5, k6, k7⟩ := c3
    exact ⟨g' + 1, S'', fun F => by rw [← Nat.add_assoc, e, k1], by omega, k3, k4, k5, of_trans (of_mono w1 o2) (of_mono w2 k6), k7⟩
/-- begun with room below -/
theorem cr_S_s (hI : ∀ (D fr : Nat) (V : ev_V) (s m y : Nat) (t : tr_T) (d : Nat) (S : wd_S), D + r = 160 → 1 ≤ D → cr_h b lim D s m S → S.1 104 12 = 0 → S.1 106 D = Int32.ofNat y → S.1 108 D = Int32.ofNat 0 → S.1 112 D = Int32.ofNat fr → fr < D → cv_e fr V S → cg_P b L D0 P S → nd_t (b + 1) S 0 L d y t → cr_O b lim (D - 1) fr (cw_W D fr) (ev_in P (ev P lim r) V s m t) (2 * s - 1 - D) S S) (hb : cb_ok b L M) : cr_S b lim L D0 P (r + 1) := by
  intro D fr V s m z t d S hD h h12 hfr hv hP ht
  obtain ⟨S1, f1, o1, c1⟩ := cr_beg (z := z) (fr := fr) h h12
  refine ⟨S1, f1, ?_⟩
  have hs := h.2.2.2.2.2.2.2.2.2.2
  have O1 : of_f (cw_W (D + 1) fr) S S1 := of_mono (fun a k z => by unfold cw_W; omega) o1
  show cr_O b lim D fr (cw_W (D + 1) fr) (if lim ≤ s then .error (some (2, s, m)) else ev_in P (ev P lim r) V (s + 1) (max m (160 - r)) t) (2 * s - D) S S1
  unfold cr_bg at c1
  by_cases q1 : lim ≤ s
  · rw [if_pos q1] at c1 ⊢
    exact ⟨0, 2 * s - D, S1, fun F => rfl, by show 2 * s - D + 0 ≤ 2 * s; omega, h.2.2.2.2.2.2.2.1, (show ¬(2 : Int32) = 0 by decide), c1.1, c1.2.1, c1.2.2, O1⟩
  · rw [if_neg q1, if_neg (by omega)] at c1
    rw [if_neg q1]
    obtain ⟨c1, c2, c3, c4, c5⟩ := c1
    have hi := hI (D + 1) fr V (s + 1) (max m (D + 1)) z t d S1 (by omega) (by omega) c1 c2 c3 c4 c5 (by omega) (cv_o o1 (fun k _ _ => by omega) hv) (cg_o hb o1 (fun a k h => by omega) hP) (ct_o hb o1 (fun a k h => by omega) ht)
    rw [show 160 - r = D + 1 by omega]
    rw [show D + 1 - 1 = D by omega, show 2 * (s + 1) - 1 - (D + 1) = 2 * s - D by omega] at hi
    unfold cr_O at hi ⊢
    split at hi
    · trivial
    · obtain ⟨g', j, S'', k1, k2, k3, k4, k5, k6, k7, k8⟩ := hi
      exact ⟨g', j, S'', k1, k2, k3, k4, k5, k6, k7, of_trans O1 k8⟩
    · obtain ⟨g', S'', k1, k2, k3, k4, k5, k6, k7⟩ := hi
      exact ⟨g', S'', k1, k2, k3, k4, k5, of_trans O1 k6, k7⟩
theorem cr_S_0 : cr_S b lim L D0 P 0 := by
  intro D fr V s m z t d S hD h h12 hfr hv hP ht
  obtain ⟨S1, f1, o1, c1⟩ := cr_beg (z := z) (fr := fr) h h12
  refine ⟨S1, f1, ?_⟩
  have O1 : of_f (cw_W (D + 1) fr) S S1 := of_mono (fun a k z => by unfold cw_W; omega) o1
  show cr_O b lim D fr (cw_W (D + 1) fr) (if lim ≤ s then .error (some (2, s, m)) else .error (some (3, s, m))) (2 * s - D) S S1
  unfold cr_bg at c1
  by_cases q1 : lim ≤ s
  · rw [if_pos q1] at c1 ⊢
    exact ⟨0, 2 * s - D, S1, fun F => rfl, by show 2 * s - D + 0 ≤ 2 * s; omega, h.2.2.2.2.2.2.2.1, (show ¬(2 : Int32) = 0 by decide), c1.1, c1.2.1, c1.2.2, O1⟩
  · rw [if_neg q1, if_pos (by omega)] at c1
    rw [if_neg q1]
    exact ⟨0, 2 * s - D, S1, fun F => rfl, by show 2 * s - D + 0 ≤ 2 * s; omega, h.2.2.2.2.2.2.2.1, (show ¬(3 : Int32) = 0 by decide), c1.1, c1.2.1, c1.2.2, O1⟩
end Cr2
end
/-! part a06 -/
section
/-! The class's runner: each kind's rounds. -/
theorem wd_d_id (o : Option wd_S) : wd_d o (fun S => some S) = o := by cases o <;> rfl
def ck_h (b L M D fr y : Nat) (S : wd_S) : Prop := cb_ok b L M ∧ S.2.2.1 104 5 = b ∧ S.2.2.1 104 6 = b + 1 ∧ S.1 104 8 = Int32.ofNat D ∧ D < 161 ∧ S.1 112 D = Int32.ofNat fr ∧ fr < 161 ∧ y < L
section Ck
variable {b L M D0 lim D s m y z fr d g i D' τ r n j : Nat} {P : List tr_T} {S S' S0 S1 S2 : wd_S} {V V' : ev_V} {t : tr_T} {v x : Int32}
theorem im_ma (a b c : Nat) : Int32.ofNat a * Int32.ofNat b + Int32.ofNat c = Int32.ofNat (a * b + c) := by
  rw [← Int32.ofNat_mul, ← Int32.ofNat_add]
theorem ct_part (hb : cb_ok b L M) (hy : y < L) (hj : j < 4) (h : S.1 (b + 9) (4 * y + j) = Int32.ofNat z) : fn_Trees_part (b + 1) (Int32.ofNat y) (Int32.ofNat j) S = some (Int32.ofNat z, S) := by
  obtain ⟨hb1, hb2, hb3, ⟨g2, g4, g6, g8, g10, g12⟩, hb5, hb6, hb7⟩ := hb
  rw [fo_tpart, if_neg (im_neg (show j < 2147483648 by omega)), if_pos (show Int32.ofNat j < 4 from (im_lt (m := j) (n := 4) (by omega) (by omega)).mpr hj)]
  have e : Int32.ofNat y * 4 + Int32.ofNat j = Int32.ofNat (4 * y + j) := by
    rw [show (4 : Int32) = Int32.ofNat 4 from rfl, im_ma, Nat.mul_comm]
  rw [e, ro_an (r := b + 1 + 7) g8 (show 4 * y + j < 4 * L by omega)]
  show some (S.1 (b + 9) (4 * y + j), S) = _
  rw [h]
theorem ct_parts (hb : cb_ok b L M) (hy : y < L) : fn_Trees_parts (b + 1) (Int32.ofNat y) S = some (S.1 (b + 7) y, S) := by
  obtain ⟨hb1, hb2, hb3, ⟨g2, g4, g6, g8, g10, g12⟩, hb5, hb6, hb7⟩ := hb
  rw [fo_tparts, ro_an (r := b + 1 + 5) g6 hy]
theorem ct_value (hb : cb_ok b L M) (hy : y < L) : fn_Trees_value (b + 1) (Int32.ofNat y) S = some (S.1 (b + 5) y, S) := by
  obtain ⟨hb1, hb2, hb3, ⟨g2, g4, g6, g8, g10, g12⟩, hb5, hb6, hb7⟩ := hb
  rw [fo_tvalue, ro_an (r := b + 1 + 3) g4 hy]
theorem ct_kind (hb : cb_ok b L M) (hy : y < L) : fn_Trees_kind (b + 1) (Int32.ofNat y) S = some (S.1 (b + 3) y, S) := by
  obtain ⟨hb1, hb2, hb3, ⟨g2, g4, g6, g8, g10, g12⟩, hb5, hb6, hb7⟩ := hb
  rw [fo_tkind, ro_an (r := b + 1 + 1) g2 hy]
theorem ck_112 (h : ck_h b L M D fr y S) : fn_Row_at 111 (S.1 104 8) S = some (Int32.ofNat fr, S) := by
  obtain ⟨hb, a1, a2, a3, a4, a5, a6, a7⟩ := h
  rw [a3, ro_at_ok, ro_an cr_112 a4, a5]
theorem cl_0 (h : ck_h b L M D fr y S) (hz : S.1 (b + 9) (4 * y + 0) = Int32.ofNat z) : fn_Runner_goOnLet (Int32.ofNat y) (Int32.ofNat 0) S = fn_Runner_begin (Int32.ofNat z) (Int32.ofNat fr) S := by
  have h0 := h
  obtain ⟨hb, a1, a2, a3, a4, a5, a6, a7⟩ := h
  unfold fn_Runner_goOnLet fn_Runner_goOnLet_94
  rw [if_pos (show Int32.ofNat 0 = 0 from rfl), a2, if_pos hb.2.2.1]
  have e := ct_part (j := 0) (S := S) hb a7 (by decide) hz
  have e : fn_Trees_part (b + 1) (Int32.ofNat y) 0 S = some (Int32.ofNat z, S) := e
  rw [e, wd_c_s, ck_112 h0, wd_c_s, wd_d_id]
theorem cl_1 (h : ck_h b L M D fr y S) (hv : S.1 (b + 5) y = Int32.ofNat n) (hn : n < 16) (hz : S.1 (b + 9) (4 * y + 1) = Int32.ofNat z) : fn_Runner_goOnLet (Int32.ofNat y) (Int32.ofNat 1) S = fn_Runner_begin (Int32.ofNat z) (Int32.ofNat fr) (wd_i S 114 (16 * fr + n) (S.1 104 11)) := by
  have h0 := h
  obtain ⟨hb, a1, a2, a3, a4, a5, a6, a7⟩ := h
  unfold fn_Runner_goOnLet fn_Runner_goOnLet_94 fn_Runner_slot
  have hb1 := hb.1
  have e1 : Int32.ofNat fr * 16 + Int32.ofNat n = Int32.ofNat (16 * fr + n) := by
    rw [show (16 : Int32) = Int32.ofNat 16 from rfl, im_ma, Nat.mul_comm]
  rw [if_neg (show ¬Int32.ofNat 1 = 0 by decide), if_pos (show Int32.ofNat 1 = 1 from rfl), a2, if_pos hb.2.2.1, ct_value hb a7, wd_c_s, hv, ck_112 h0, wd_c_s, wd_c_s, e1, ro_put_ok, wd_d_s, ro_pn cr_114 (show 16 * fr + n < 2576 by omega), fr_i2, a2, if_pos hb.2.2.1]
  have h1 : ck_h b L M D fr y (wd_i S (113 + 1) (16 * fr + n) (S.1 104 11)) := ⟨hb, by rw [fr_i2]; exact a1, by rw [fr_i2]; exact a2, by rw [fr_ne (by omega)]; exact a3, a4, by rw [fr_ne (by omega)]; exact a5, a6, a7⟩
  have e := ct_part (j := 1) (S := wd_i S (113 + 1) (16 * fr + n) (S.1 104 11)) hb a7 (by decide) (z := z) (by rw [fr_ne (by omega)]; exact hz)
  have e : fn_Trees_part (b + 1) (Int32.ofNat y) 1 (wd_i S (113 + 1) (16 * fr + n) (S.1 104 11)) = _ := e
  rw [e, wd_c_s, ck_112 h1, wd_c_s, wd_d_id]
theorem cl_2 : fn_Runner_goOnLet (Int32.ofNat y) (Int32.ofNat 2) S = fn_Runner_finish (S.1 104 11) S := by
  unfold fn_Runner_goOnLet fn_Runner_goOnLet_94
  rw [if_neg (show ¬Int32.ofNat 2 = 0 by decide), if_neg (show ¬Int32.ofNat 2 = 1 by decide), wd_d_id]
theorem ci_0 (h : ck_h b L M D fr y S) (hz : S.1 (b + 9) (4 * y + 0) = Int32.ofNat z) : fn_Runner_goOnIf (Int32.ofNat y) (Int32.ofNat 0) S = fn_Runner_begin (Int32.ofNat z) (Int32.ofNat fr) S := by
  have h0 := h
  obtain ⟨hb, a1, a2, a3, a4, a5, a6, a7⟩ := h
  unfold fn_Runner_goOnIf fn_Runner_goOnIf_82
  rw [if_pos (show Int32.ofNat 0 = 0 from rfl), a2, if_pos hb.2.2.1]
  have e := ct_part (j := 0) (S := S) hb a7 (by decide) hz
  have e : fn_Trees_part (b + 1) (Int32.ofNat y) 0 S = some (Int32.ofNat z, S) := e
  rw [e, wd_c_s, ck_112 h0, wd_c_s, wd_d_id]
theorem ci_1 (h : ck_h b L M D fr y S) (hz : S.1 (b + 9) (4 * y + (if S.1 104 11 = 0 then 2 else 1)) = Int32.ofNat z) : fn_Runner_goOnIf (Int32.ofNat y) (Int32.ofNat 1) S = fn_Runner_begin (Int32.ofNat z) (Int32.ofNat fr) S := by
  have h0 := h
  obtain ⟨hb, a1, a2, a3, a4, a5, a6, a7⟩ := h
  unfold fn_Runner_goOnIf fn_Runner_goOnIf_54 fn_Runner_goOnIf_82
  rw [if_neg (show ¬Int32.ofNat 1 = 0 by decide), if_pos (show Int32.ofNat 1 = 1 from rfl), a2, if_pos hb.2.2.1]
  by_cases c : S.1 104 11 = 0
  · rw [if_pos c] at hz ⊢
    have e := ct_part (j := 2) (S := S) hb a7 (by decide) hz
    have e : fn_Trees_part (b + 1) (Int32.ofNat y) 2 S = some (Int32.ofNat z, S) := e
    rw [e, wd_c_s, ck_112 h0, wd_c_s, wd_d_id]
  · rw [if_neg c] at hz ⊢
    have e := ct_part (j := 1) (S := S) hb a7 (by decide) hz
    have e : fn_Trees_part (b + 1) (Int32.ofNat y) 1 S = some (Int32.ofNat z, S) := e
    rw [e, wd_c_s, ck_112 h0, wd_c_s, wd_d_id]
theorem ci_2 : fn_Runner_goOnIf (Int32.ofNat y) (Int32.ofNat 2) S = fn_Runner_finish (S.1 104 11) S := by
  unfold fn_Runner_goOnIf fn_Runner_goOnIf_82
  rw [if_neg (show ¬Int32.ofNat 2 = 0 by decide), if_neg (show ¬Int32.ofNat 2 = 1 by decide), wd_d_id]
theorem cs_0 (h : ck_h b L M D fr y S) (hz : S.1 (b + 9) (4 * y + 0) = Int32.ofNat z) : fn_Runner_goOnSign (Int32.ofNat y) (Int32.ofNat 0) S = fn_Runner_begin (Int32.ofNat z) (Int32.ofNat fr) S := by
  have h0 := h
  obtain ⟨hb, a1, a2, a3, a4, a5, a6, a7⟩ := h
  unfold fn_Runner_goOnSign fn_Runner_goOnSign_108
  rw [if_pos (show Int32.ofNat 0 = 0 from rfl), a2, if_pos hb.2.2.1]
  have e := ct_part (j := 0) (S := S) hb a7 (by decide) hz
  have e : fn_Trees_part (b + 1) (Int32.ofNat y) 0 S = some (Int32.ofNat z, S) := e
  rw [e, wd_c_s, ck_112 h0, wd_c_s, wd_d_id]
theorem cs_1 (h : ck_h b L M D fr y S) (hz : S.1 (b + 9) (4 * y + 1) = Int32.ofNat z) : fn_Runner_goOnSign (Int32.ofNat y) (Int32.ofNat 1) S = fn_Runner_begin (Int32.ofNat z) (Int32.ofNat fr) (wd_i S 110 D (S.1 104 11)) := by
  obtain ⟨hb, a1, a2, a3, a4, a5, a6, a7⟩ := h
  have hb1 := hb.1
  unfold fn_Runner_goOnSign fn_Runner_goOnSign_108
  rw [if_neg (show ¬Int32.ofNat 1 = 0 by decide), if_pos (show Int32.ofNat 1 = 1 from rfl), a3, ro_put_ok, wd_d_s, ro_pn cr_110 a4, fr_i2, a2, if_pos hb.2.2.1]
  have h1 : ck_h b L M D fr y (wd_i S (109 + 1) D (S.1 104 11)) := ⟨hb, by rw [fr_i2]; exact a1, by rw [fr_i2]; exact a2, by rw [fr_ne (by omega)]; exact a3, a4, by rw [fr_ne (by omega)]; exact a5, a6, a7⟩
  have e := ct_part (j := 1) (S := wd_i S (109 + 1) D (S.1 104 11)) hb a7 (by decide) (z := z) (by rw [fr_ne (by omega)]; exact hz)
  have e : fn_Trees_part (b + 1) (Int32.ofNat y) 1 (wd_i S (109 + 1) D (S.1 104 11)) = _ := e
  rw [e, wd_c_s, ck_112 h1, wd_c_s, wd_d_id]
theorem sp_sign {k a c : Int32} : fn_Sp_signed k a c S = some (ev_sg k a c, S) := by
  unfold fn_Sp_signed fn_Sp_signed_54 fn_Sp_signed_65 ev_sg
  split
  · rfl
  · split
    · rfl
    · split
      · rfl
      · split
        · split <;> rfl
        · split <;> rfl
theorem cs_2 (h : ck_h b L M D fr y S) : fn_Runner_goOnSign (Int32.ofNat y) (Int32.ofNat 2) S = fn_Runner_finish (ev_sg (S.1 (b + 3) y) (S.1 110 D) (S.1 104 11)) S := by
  obtain ⟨hb, a1, a2, a3, a4, a5, a6, a7⟩ := h
  unfold fn_Runner_goOnSign fn_Runner_goOnSign_108
  rw [if_neg (show ¬Int32.ofNat 2 = 0 by decide), if_neg (show ¬Int32.ofNat 2 = 1 by decide), a2, if_pos hb.2.2.1, ct_kind hb a7, wd_c_s, a3, ro_at_ok, wd_c_s, ro_an cr_110 a4, sp_sign, wd_c_s, wd_d_id]
/-- a call's round: what is put away, then an argument or the body -/
def cc_p (D τ : Nat) (S : wd_S) : wd_S := if τ = 0 then S else wd_i S 114 (16 * D + (τ - 1)) (S.1 104 11)
theorem cc_o : of_f (fun a k => a = 114 ∧ 16 * D ≤ k ∧ k < 16 * D + τ) S (cc_p D τ S) := by
  unfold cc_p
  split
  · exact of_refl
  · exact of_i (by omega) of_refl
theorem cc_49 (h : ck_h b L M D fr y S) {a : Nat} (ha : S.1 (b + 7) y = Int32.ofNat a) (ha4 : a ≤ 4) (hτ : τ ≤ a) : fn_Runner_goOnCall (Int32.ofNat y) (Int32.ofNat τ) S = fn_Runner_goOnCall_49 (Int32.ofNat y) (Int32.ofNat τ) (Int32.ofNat a) (cc_p D τ S) := by
  obtain ⟨hb, a1, a2, a3, a4, a5, a6, a7⟩ := h
  unfold fn_Runner_goOnCall cc_p
  rw [a2, if_pos hb.2.2.1, ct_parts hb a7, wd_c_s, ha, if_neg (fun q => by have := (im_lt (by omega) (by omega)).mp q; omega)]
  by_cases c : τ = 0
  · rw [if_pos c, if_neg (show ¬(0 : Int32) < Int32.ofNat τ from fun q => by have := (im_lt (m := 0) (n := τ) (by omega) (by omega)).mp q; omega)]
  · rw [if_neg c, if_pos (show (0 : Int32) < Int32.ofNat τ from (im_lt (m := 0) (n := τ) (by omega) (by omega)).mpr (by omega)), a3]
    obtain ⟨τ, rfl⟩ : ∃ q, τ = q + 1 := ⟨τ - 1, by omega⟩
    have e1 : Int32.ofNat D * 16 + Int32.ofNat (τ + 1) - 1 = Int32.ofNat (16 * D + τ) := by
      rw [show (16 : Int32) = Int32.ofNat 16 from rfl, im_ma, ← Nat.add_assoc, im_p, Nat.mul_comm]
    rw [e1, ro_put_ok, wd_d_s, ro_pn cr_114 (show 16 * D + τ < 2576 by omega)]
    rfl
theorem ck_cc (h : ck_h b L M D fr y S) : ck_h b L M D fr y (cc_p D τ S) := by
  obtain ⟨hb, a1, a2, a3, a4, a5, a6, a7⟩ := h
  have o := cc_o (D := D) (τ := τ) (S := S)
  exact ⟨hb, by rw [o.2.2]; exact a1, by rw [o.2.2]; exact a2, by rw [o.1 104 8 (by omega)]; exact a3, a4, by rw [o.1 112 D (by omega)]; exact a5, a6, a7⟩
theorem cc_arg (h : ck_h b L M D fr y S) {a : Nat} (ha : S.1 (b + 7) y = Int32.ofNat a) (ha4 : a ≤ 4) (hτ : τ < a) (hz : S.1 (b + 9) (4 * y + τ) = Int32.ofNat z) : fn_Runner_goOnCall (Int32.ofNat y) (Int32.ofNat τ) S = fn_Runner_begin (Int32.ofNat z) (Int32.ofNat fr) (cc_p D τ S) := by
  rw [cc_49 h ha ha4 (by omega)]
  have h1 := ck_cc (τ := τ) h
  obtain ⟨hb, a1, a2, a3, a4, a5, a6, a7⟩ := ck_cc (τ := τ) h
  have hb1 := hb.1
  unfold fn_Runner_goOnCall_49 fn_Runner_goOnCall_104
  rw [if_pos ((im_lt (by omega) (by omega)).mpr hτ), a2, if_pos hb.2.2.1, ct_part hb a7 (show τ < 4 by omega) (z := z) (by rw [cc_o.1 (b + 9) _ (by omega)]; exact hz), wd_c_s, ck_112 h1, wd_c_s, wd_d_id]
theorem cc_body (h : ck_h b L M D fr y S) {a : Nat} (ha : S.1 (b + 7) y = Int32.ofNat a) (ha4 : a ≤ 4) (hv : S.1 (b + 5) y = Int32.ofNat n) (hn : n < M) (hz : S.1 (b + 15) n = Int32.ofNat z) : fn_Runner_goOnCall (Int32.ofNat y) (Int32.ofNat a) S = fn_Runner_begin (Int32.ofNat z) (Int32.ofNat D) (cc_p D a S) := by
  rw [cc_49 h ha ha4 (Nat.le_refl _)]
  obtain ⟨hb, a1, a2, a3, a4, a5, a6, a7⟩ := ck_cc (τ := a) h
  have hb0 := hb
  obtain ⟨hb1, hb2, hb3, hb4, hb5, hb6, hb7⟩ := hb
  unfold fn_Runner_goOnCall_49 fn_Runner_goOnCall_104
  rw [if_neg (fun q => by have := (im_lt (by omega) (by omega)).mp q; omega), a1, if_pos hb2, a2, if_pos hb3, ct_value hb0 a7, wd_c_s, cc_o.1 (b + 5) y (by omega), hv, fo_root, wd_c_s, ro_an (r := b + 14) hb5 hn, a3, wd_d_id]
  show fn_Runner_begin ((cc_p D a S).1 (b + 15) n) _ _ = _
  rw [cc_o.1 (b + 15) n (by omega), hz]
theorem cc_end (h : ck_h b L M D fr y S) {a : Nat} (ha : S.1 (b + 7) y = Int32.ofNat a) (ha4 : a ≤ 4) : fn_Runner_goOnCall (Int32.ofNat y) (Int32.ofNat (a + 1)) S = fn_Runner_finish (S.1 104 11) S := by
  obtain ⟨hb, a1, a2, a3, a4, a5, a6, a7⟩ := h
  unfold fn_Runner_goOnCall
  rw [a2, if_pos hb.2.2.1, ct_parts hb a7, wd_c_s, ha, if_pos ((im_lt (by omega) (by omega)).mpr (by omega)), wd_d_id]
end Ck
end
/-! part a07 -/
section
/-! The class's runner: an EXPRESSION that is begun comes to what it should. -/
section Cr4
variable {b L M D0 lim D s m y z fr d g i D' τ r n j : Nat} {P : List tr_T} {S S' S0 S1 S2 : wd_S} {V V' : ev_V} {t : tr_T} {v x : Int32}
/-- what a round finds -/
def cz_h (b lim L M D0 D fr s m y τ d : Nat) (P : List tr_T) (V : ev_V) (t : tr_T) (S : wd_S) : Prop := cb_ok b L M ∧ cr_h b lim D s m S ∧ S.1 104 12 = 0 ∧ 1 ≤ D ∧ S.1 106 D = Int32.ofNat y ∧ S.1 108 D = Int32.ofNat τ ∧ S.1 112 D = Int32.ofNat fr ∧ fr < D ∧ cv_e fr V S ∧ cg_P b L D0 P S ∧ nd_t (b + 1) S 0 L d y t
theorem cz_k (h : cz_h b lim L M D0 D fr s m y τ d P V t S) (x : Int32) : ck_h b L M D fr y (wd_i S 108 D x) := by
  obtain ⟨hb, h, -, -, -, -, h6, h7, -, -, h10⟩ := h
  cases d with
  | zero => exact absurd h10 id
  | succ d =>
    obtain ⟨a1, a2, a3, a4, a5, a6, a7, a8, a9, a10, a11⟩ := h
    exact ⟨hb, by rw [fr_i2]; exact a1, by rw [fr_i2]; exact a2, by rw [fr_ne (by omega)]; exact a4, by omega, by rw [fr_ne (by omega)]; exact h6, by omega, h10.2.1⟩
theorem cz_t (h : cz_h b lim L M D0 D fr s m y τ (d + 1) P V t S) (x : Int32) : (wd_i S 108 D x).1 (b + 3) y = tr_k t ∧ (wd_i S 108 D x).1 (b + 5) y = tr_v t ∧ (wd_i S 108 D x).1 (b + 7) y = Int32.ofNat (tr_a t) ∧ ∀ j, j < 4 → j < tr_a t → ∃ z, (wd_i S 108 D x).1 (b + 9) (4 * y + j) = Int32.ofNat z ∧ nd_t (b + 1) (wd_i S 108 D x) 0 L d z (tr_sub t j) := by
  obtain ⟨hb, -, -, -, -, -, -, -, -, -, h10⟩ := h
  have hb1 := hb.1
  obtain ⟨-, -, t2, t4, t6, t8⟩ := h10
  refine ⟨by rw [fr_ne (by omega)]; exact t2, by rw [fr_ne (by omega)]; exact t4, by rw [fr_ne (by omega)]; exact t6, fun j h1 h2 => ?_⟩
  obtain ⟨z, k1, k2⟩ := t8 j h1 h2
  have o1 : of_f (fun a k => a = 108 ∧ k = D) S (wd_i S 108 D x) := of_i ⟨rfl, rfl⟩ of_refl
  exact ⟨z, by rw [fr_ne (by omega)]; exact k1, ct_o hb o1 (fun a k h => by omega) k2⟩
theorem cz_round (h : cz_h b lim L M D0 D fr s m y τ (d + 1) P V t S) (F : Nat) : fn_Runner_work_82 (F + 1) (Int32.ofNat (2 * s - 1 - D)) S = wd_d (if tr_k t = 1 then fn_Runner_finish (tr_v t) (wd_i S 108 D (Int32.ofNat (τ + 1))) else if tr_k t = 2 then fn_Runner_finish (ro_at 113 (Int32.ofNat fr * 16 + tr_v t) S) (wd_i S 108 D (Int32.ofNat (τ + 1))) else if tr_k t = 3 then fn_Runner_goOnLet (Int32.ofNat y) (Int32.ofNat τ) (wd_i S 108 D (Int32.ofNat (τ + 1))) else if tr_k t = 4 then fn_Runner_goOnIf (Int32.ofNat y) (Int32.ofNat τ) (wd_i S 108 D (Int32.ofNat (τ + 1))) else if tr_k t = 5 then fn_Runner_goOnCall (Int32.ofNat y) (Int32.ofNat τ) (wd_i S 108 D (Int32.ofNat (τ + 1))) else fn_Runner_goOnSign (Int32.ofNat y) (Int32.ofNat τ) (wd_i S 108 D (Int32.ofNat (τ + 1)))) (fn_Runner_work_82 F (Int32.ofNat (2 * s - 1 - D + 1))) := by
  obtain ⟨hb, h1, h2, h3, h4, h5, h6, h7, h8, h9, h10⟩ := h
  obtain ⟨-, k1, t2, t4, t6, t8⟩ := h10
  have e := cr_round hb h1 h2 h3 h4 h5 k1 F
  have t2 : S.1 (b + 3) y = tr_k t := t2
  have t4 : S.1 (b + 5) y = tr_v t := t4
  rw [t2, t4, h6] at e
  exact e
/-- after a part: the next round's state -/
theorem cz_next {W : Nat → Nat → Prop} {q : ev_O} (h : cz_h b lim L M D0 D fr s m y τ d P V t S) (hr : cr_h b lim D q.2.2.1 q.2.2.2 S') (h12 : S'.1 104 12 = if D = 0 then 1 else 0) (ho : of_f W S S') (hW : ∀ a k, a ≤ 103 → ¬W a k) (hW1 : ¬W 106 D ∧ ¬W 112 D) (hτ : S'.1 108 D = Int32.ofNat (τ + 1)) (hv : cv_e fr V' S') : cz_h b lim L M D0 D fr q.2.2.1 q.2.2.2 y (τ + 1) d P V' t S' := by
  obtain ⟨hb, h1, h2, h3, h4, h5, h6, h7, h8, h9, h10⟩ := h
  exact ⟨hb, hr, by rw [h12, if_neg (by omega)], h3, (ho.1 106 D hW1.1).trans h4, hτ, (ho.1 112 D hW1.2).trans h6, h7, hv, cg_o hb ho hW h9, ct_o hb ho hW h10⟩
/-- a round of τ that begins a part in the same frame, nothing put away but what W tells -/
theorem cz_sub {W1 : Nat → Nat → Prop} (hS : cr_S b lim L D0 P r) (hDr : D + r = 160) (h : cz_h b lim L M D0 D fr s m y τ (d + 1) P V t S) (o2 : of_f (fun a k => (a = 108 ∧ k = D) ∨ W1 a k) S S2) (hW1 : ∀ a k, W1 a k → (a = 110 ∧ k = D) ∨ a = 114 ∧ ((16 * fr ≤ k ∧ k < 16 * fr + 16) ∨ 16 * D ≤ k)) (hτ : S2.1 108 D = Int32.ofNat (τ + 1)) (hr : ∀ F, fn_Runner_work_82 (F + 1) (Int32.ofNat (2 * s - 1 - D)) S = wd_d (fn_Runner_begin (Int32.ofNat z) (Int32.ofNat fr) S2) (fn_Runner_work_82 F (Int32.ofNat (2 * s - 1 - D + 1)))) (hv : cv_e fr V' S2) {u : tr_T} {e : Nat} (hu : nd_t (b + 1) S 0 L e z u) {D' : Nat} {f : ev_O → Except ev_E ev_O} (hf : ∀ (q : ev_O) (S' : wd_S), cz_h b lim L M D0 D fr q.2.2.1 q.2.2.2 y (τ + 1) (d + 1) P q.2.1 t S' → S'.1 104 11 = q.1 → of_f (cw_W (D + 1) fr) S2 S' → cr_O b lim D' fr (cw_W D fr) (f q) (2 * q.2.2.1 - 1 - D) S' S') : cr_O b lim D' fr (cw_W D fr) (ev_b (ev P lim r V' s m u) f) (2 * s - 1 - D) S S := by
  obtain ⟨hb, h1, h2, h3, h4, h5, h6, h7, h8, h9, h10⟩ := h
  have hW103 : ∀ a k, a ≤ 103 → ¬((a = 108 ∧ k = D) ∨ W1 a k) := fun a k hk hz => by
    rcases hz with z | z
    · omega
    · have := hW1 a k z; omega
  have hDs := h1.2.2.2.2.2.2.2.2.2.2
  obtain ⟨S3, f3, c3⟩ := hS D fr V' s m z u e S2 hDr (cr_h_o h1 o2 (fun k _ _ hz => by rcases hz with z | z; omega; have := hW1 _ k z; omega)) (by rw [o2.1 104 12 (fun hz => by rcases hz with z | z; omega; have := hW1 _ _ z; omega)]; exact h2) (by omega) hv (cg_o hb o2 hW103 h9) (ct_o hb o2 hW103 hu)
  have e1 : ∀ F, fn_Runner_work_82 (F + 1) (Int32.ofNat (2 * s - 1 - D)) S = fn_Runner_work_82 F (Int32.ofNat (2 * s - D)) S3 := fun F => by
    rw [hr, f3, wd_d_s, show 2 * s - 1 - D + 1 = 2 * s - D by omega]
  have O2 : of_f (cw_W D fr) S S2 := of_mono (fun a k hz => by
    unfold cw_W
    rcases hz with z | z
    · omega
    · have := hW1 a k z; omega) o2
  have c4 := cr_bind (W := cw_W D fr) (W1 := cw_W (D + 1) fr) (W2 := cw_W D fr) (f := f) (D' := D') (fr' := fr) c3 (fun q S' k1 k2 k3 k4 k5 => by
    have oo : of_f (fun a k => ((a = 108 ∧ k = D) ∨ W1 a k) ∨ cw_W (D + 1) fr a k) S S' := of_trans (of_mono (fun a k z => Or.inl z) o2) (of_mono (fun a k z => Or.inr z) k4)
    refine hf q S' (cz_next ⟨hb, h1, h2, h3, h4, h5, h6, h7, h8, h9, h10⟩ k1 k3 oo (fun a k hk hz => ?_) ⟨fun hz => ?_, fun hz => ?_⟩ ?_ k5) k2 k4
    · rcases hz with z | z
      · exact hW103 a k hk z
      · exact cw_103 a k hk z
    · rcases hz with (z | z) | z
      · omega
      · have := hW1 _ _ z; omega
      · unfold cw_W at z; omega
    · rcases hz with (z | z) | z
      · omega
      · have := hW1 _ _ z; omega
      · unfold cw_W at z; omega
    · rw [k4.1 108 D (by unfold cw_W; omega)]; exact hτ) (cw_le (by omega) (Or.inl rfl)) (fun _ _ z => z)
  unfold cr_O at c4 ⊢
  split at c4
  · trivial
  · obtain ⟨g', j, S'', k1, k2, k3, k4, k5, k6, k7, k8⟩ := c4
    exact ⟨g' + 1, j, S'', fun F => by rw [← Nat.add_assoc, e1, k1], by omega, k3, k4, k5, k6, k7, of_trans O2 k8⟩
  · obtain ⟨g', S'', k1, k2, k3, k4, k5, k6, k7⟩ := c4
    exact ⟨g' + 1, S'', fun F => by rw [← Nat.add_assoc, e1, k1], by omega, k3, k4, k5, of_trans O2 k6, k7⟩
theorem ev_b_r (x : Except ev_E ev_O) : ev_b x (fun q => .ok q) = x := by cases x <;> rfl
theorem cz_fin (h : cz_h b lim L M D0 D fr s m y τ (d + 1) P V t S) (hr : ∀ F, fn_Runner_work_82 (F + 1) (Int32.ofNat (2 * s - 1 - D)) S = wd_d (fn_Runner_finish v (wd_i S 108 D x)) (fn_Runner_work_82 F (Int32.ofNat (2 * s - 1 - D + 1)))) : cr_O b lim (D - 1) fr (cw_W D fr) (.ok (v, V, s, m)) (2 * s - 1 - D) S S := by
  obtain ⟨hb, h1, h2, h3, h4, h5, h6, h7, h8, h9, h10⟩ := h
  exact cr_fin1 h1 h2 h3 h7 hr h8
theorem cz_leaf1 (h : cz_h b lim L M D0 D fr s m y 0 (d + 1) P V t S) (hk : tr_k t = 1) : cr_O b lim (D - 1) fr (cw_W D fr) (.ok (tr_v t, V, s, m)) (2 * s - 1 - D) S S := cz_fin h (fun F => by rw [cz_round h, if_pos hk])
theorem cz_leaf2 (h : cz_h b lim L M D0 D fr s m y 0 (d + 1) P V t S) (hk : tr_k t = 2) (hn : tr_v t = Int32.ofNat (tr_n t)) (hv : V (tr_n t) = some v) : cr_O b lim (D - 1) fr (cw_W D fr) (.ok (v, V, s, m)) (2 * s - 1 - D) S S := cz_fin (x := Int32.ofNat 1) h (fun F => by
  obtain ⟨hb, h1, h2, h3, h4, h5, h6, h7, h8, h9, h10⟩ := id h
  obtain ⟨c1, c2⟩ := h8 _ _ hv
  have hD := h1.2.2.2.2.2.2.2.2.2.1
  rw [cz_round h, if_neg (by rw [hk]; decide), if_pos hk, hn, show Int32.ofNat fr * 16 + Int32.ofNat (tr_n t) = Int32.ofNat (16 * fr + tr_n t) by rw [show (16 : Int32) = Int32.ofNat 16 from rfl, im_ma, Nat.mul_comm], ro_an cr_114 (show 16 * fr + tr_n t < 2576 by omega)]
  show wd_d (fn_Runner_finish (S.1 114 (16 * fr + tr_n t)) _) _ = _
  rw [c2])
theorem cz_108 (S : wd_S) (D : Nat) (x : Int32) : of_f (fun a k => (a = 108 ∧ k = D) ∨ False) S (wd_i S 108 D x) := of_i (Or.inl ⟨rfl, rfl⟩) of_refl
theorem cz_v (h : cz_h b lim L M D0 D fr s m y τ (d + 1) P V t S) (x : Int32) : cv_e fr V (wd_i S 108 D x) := cv_o (cz_108 S D x) (fun k _ _ hz => by rcases hz with z | z; omega; exact z) h.2.2.2.2.2.2.2.2.1
theorem cz_sub0 (h : cz_h b lim L M D0 D fr s m y τ (d + 1) P V t S) (hj : j < 4) (hja : j < tr_a t) : ∃ z, (∀ x, (wd_i S 108 D x).1 (b + 9) (4 * y + j) = Int32.ofNat z) ∧ nd_t (b + 1) S 0 L d z (tr_sub t j) := by
  have hb1 := h.1.1
  obtain ⟨-, -, -, -, -, -, -, -, -, -, -, -, t2, t4, t6, t8⟩ := h
  obtain ⟨z, k1, k2⟩ := t8 j hj hja
  exact ⟨z, fun x => by rw [fr_ne (by omega)]; exact k1, k2⟩
theorem cz_let (hS : cr_S b lim L D0 P r) (hDr : D + r = 160) (h : cz_h b lim L M D0 D fr s m y 0 (d + 1) P V t S) (hk : tr_k t = 3) (hn : tr_v t = Int32.ofNat (tr_n t)) (hn2 : tr_n t < 16) (ha : tr_a t = 2) : cr_O b lim (D - 1) fr (cw_W D fr) (ev_b (ev P lim r V s m (tr_sub t 0)) fun q => ev P lim r (ev_u q.2.1 (tr_n t) q.1) q.2.2.1 q.2.2.2 (tr_sub t 1)) (2 * s - 1 - D) S S := by
  obtain ⟨z0, k1, k2⟩ := cz_sub0 (j := 0) h (by decide) (by omega)
  refine cz_sub (z := z0) hS hDr h (W1 := fun _ _ => False) (cz_108 S D (Int32.ofNat (0 + 1))) (fun _ _ z => z.elim) fr_eq (fun F => ?_) (cz_v h _) k2 (fun q S' h' e11 _ => ?_)
  · rw [cz_round h, if_neg (by rw [hk]; decide), if_neg (by rw [hk]; decide), if_pos hk, cl_0 (cz_k h _) (k1 _)]
  · obtain ⟨z1, l1, l2⟩ := cz_sub0 (j := 1) h' (by decide) (by omega)
    rw [← ev_b_r (ev P lim r (ev_u q.2.1 (tr_n t) q.1) q.2.2.1 q.2.2.2 (tr_sub t 1))]
    have e11' : (wd_i S' 108 D (Int32.ofNat (1 + 1))).1 104 11 = q.1 := by rw [fr_ne (by omega)]; exact e11
    have tt := cz_t h' (Int32.ofNat (1 + 1))
    refine cz_sub (z := z1) hS hDr h' (W1 := fun a k => a = 114 ∧ k = 16 * fr + tr_n t) (S2 := wd_i (wd_i S' 108 D (Int32.ofNat (1 + 1))) 114 (16 * fr + tr_n t) q.1) (of_i (Or.inr ⟨rfl, rfl⟩) (of_i (Or.inl ⟨rfl, rfl⟩) of_refl)) (fun a k z => Or.inr ⟨z.1, by omega⟩) (by rw [fr_ne (by omega), fr_eq]) (fun F => ?_) (fun i v hi => ?_) l2 (fun q2 S'' h'' e12 _ => ?_)
    · rw [cz_round h', if_neg (by rw [hk]; decide), if_neg (by rw [hk]; decide), if_pos hk, cl_1 (n := tr_n t) (cz_k h' _) (by rw [tt.2.1, hn]) hn2 (l1 _), e11']
    · unfold ev_u at hi
      by_cases c : i = tr_n t
      · rw [if_pos c] at hi
        cases hi
        rw [c]
        exact ⟨hn2, fr_eq⟩
      · rw [if_neg c] at hi
        obtain ⟨u1, u2⟩ := h'.2.2.2.2.2.2.2.2.1 i v hi
        exact ⟨u1, by rw [fr_ne (by omega), fr_ne (by omega)]; exact u2⟩
    · have := cz_fin (x := Int32.ofNat (2 + 1)) h'' (v := q2.1) (fun F => by
        rw [cz_round h'', if_neg (by rw [hk]; decide), if_neg (by rw [hk]; decide), if_pos hk, cl_2, fr_ne (by omega), e12])
      exact this
theorem cz_if (hS : cr_S b lim L D0 P r) (hDr : D + r = 160) (h : cz_h b lim L M D0 D fr s m y 0 (d + 1) P V t S) (hk : tr_k t = 4) (ha : tr_a t = 3) : cr_O b lim (D - 1) fr (cw_W D fr) (ev_b (ev P lim r V s m (tr_sub t 0)) fun q => ev P lim r q.2.1 q.2.2.1 q.2.2.2 (tr_sub t (if q.1 = 0 then 2 else 1))) (2 * s - 1 - D) S S := by
  obtain ⟨z0, k1, k2⟩ := cz_sub0 (j := 0) h (by decide) (by omega)
  refine cz_sub (z := z0) hS hDr h (W1 := fun _ _ => False) (cz_108 S D (Int32.ofNat (0 + 1))) (fun _ _ z => z.elim) fr_eq (fun F => ?_) (cz_v h _) k2 (fun q S' h' e11 _ => ?_)
  · rw [cz_round h, if_neg (by rw [hk]; decide), if_neg (by rw [hk]; decide), if_neg (by rw [hk]; decide), if_pos hk, ci_0 (cz_k h _) (k1 _)]
  · obtain ⟨z1, l1, l2⟩ := cz_sub0 (j := if q.1 = 0 then 2 else 1) h' (by split <;> decide) (by split <;> omega)
    rw [← ev_b_r (ev P lim r q.2.1 q.2.2.1 q.2.2.2 (tr_sub t (if q.1 = 0 then 2 else 1)))]
    have e11' : (wd_i S' 108 D (Int32.ofNat (1 + 1))).1 104 11 = q.1 := by rw [fr_ne (by omega)]; exact e11
    refine cz_sub (z := z1) hS hDr h' (W1 := fun _ _ => False) (cz_108 S' D (Int32.ofNat (1 + 1))) (fun _ _ z => z.elim) fr_eq (fun F => ?_) (cz_v h' _) l2 (fun q2 S'' h'' e12 _ => ?_)
    · rw [cz_round h', if_neg (by rw [hk]; decide), if_neg (by rw [hk]; decide), if_neg (by rw [hk]; decide), if_pos hk, ci_1 (cz_k h' _) (by rw [e11']; exact l1 _)]
    · have := cz_fin (x := Int32.ofNat (2 + 1)) h'' (v := q2.1) (fun F => by
        rw [cz_round h'', if_neg (by rw [hk]; decide), if_neg (by rw [hk]; decide), if_neg (by rw [hk]; decide), if_pos hk, ci_2, fr_ne (by omega), e12])
      exact this
theorem cz_sign (hS : cr_S b lim L D0 P r) (hDr : D + r = 160) (h : cz_h b lim L M D0 D fr s m y 0 (d + 1) P V t S) (hk : tr_k t = 6 ∨ tr_k t = 7 ∨ tr_k t = 8 ∨ tr_k t = 9 ∨ tr_k t = 10) (ha : tr_a t = 2) : cr_O b lim (D - 1) fr (cw_W D fr) (ev_b (ev P lim r V s m (tr_sub t 0)) fun q => ev_b (ev P lim r q.2.1 q.2.2.1 q.2.2.2 (tr_sub t 1)) fun w => .ok (ev_sg (tr_k t) q.1 w.1, w.2)) (2 * s - 1 - D) S S := by
  have n1 : ¬tr_k t = 1 := fun q => by rw [q] at hk; exact absurd hk (by decide)
  have n2 : ¬tr_k t = 2 := fun q => by rw [q] at hk; exact absurd hk (by decide)
  have n3 : ¬tr_k t = 3 := fun q => by rw [q] at hk; exact absurd hk (by decide)
  have n4 : ¬tr_k t = 4 := fun q => by rw [q] at hk; exact absurd hk (by decide)
  have n5 : ¬tr_k t = 5 := fun q => by rw [q] at hk; exact absurd hk (by decide)
  obtain ⟨z0, k1, k2⟩ := cz_sub0 (j := 0) h (by decide) (by omega)
  refine cz_sub (z := z0) hS hDr h (W1 := fun _ _ => False) (cz_108 S D (Int32.ofNat (0 + 1))) (fun _ _ z => z.elim) fr_eq (fun F => ?_) (cz_v h _) k2 (fun q S' h' e11 _ => ?_)
  · rw [cz_round h, if_neg n1, if_neg n2, if_neg n3, if_neg n4, if_neg n5, cs_0 (cz_k h _) (k1 _)]
  · obtain ⟨z1, l1, l2⟩ := cz_sub0 (j := 1) h' (by decide) (by omega)
    have e11' : (wd_i S' 108 D (Int32.ofNat (1 + 1))).1 104 11 = q.1 := by rw [fr_ne (by omega)]; exact e11
    refine cz_sub (z := z1) hS hDr h' (W1 := fun a k => a = 110 ∧ k = D) (S2 := wd_i (wd_i S' 108 D (Int32.ofNat (1 + 1))) 110 D q.1) (of_i (Or.inr ⟨rfl, rfl⟩) (of_i (Or.inl ⟨rfl, rfl⟩) of_refl)) (fun a k z => Or.inl z) (by rw [fr_ne (by omega), fr_eq]) (fun F => ?_) (cv_o (of_i (W := fun a k => a = 110 ∧ k = D) ⟨rfl, rfl⟩ of_refl) (fun k _ _ => by omega) (cz_v h' _)) l2 (fun q2 S'' h'' e12 o'' => ?_)
    · rw [cz_round h', if_neg n1, if_neg n2, if_neg n3, if_neg n4, if_neg n5, cs_1 (cz_k h' _) (l1 _), e11']
    · have tt := cz_t h'' (Int32.ofNat (2 + 1))
      have e110 : (wd_i S'' 108 D (Int32.ofNat (2 + 1))).1 110 D = q.1 := by rw [fr_ne (by omega), o''.1 110 D (by unfold cw_W; omega), fr_eq]
      have := cz_fin (x := Int32.ofNat (2 + 1)) h'' (v := ev_sg (tr_k t) q.1 q2.1) (fun F => by
        rw [cz_round h'', if_neg n1, if_neg n2, if_neg n3, if_neg n4, if_neg n5, cs_2 (cz_k h'' _), tt.1, e110, fr_ne (by omega), e12])
      exact this
end Cr4
end
/-! part a08 -/
section
/-! The class's runner: calls; a whole run. -/
section Cr5
variable {b L M D0 lim D s m y z fr d g i D' τ r n j : Nat} {P : List tr_T} {S S' S0 S1 S2 : wd_S} {V V' : ev_V} {t : tr_T} {v x : Int32}
/-- what is put away so far -/
def cy_l (D : Nat) (l : List Int32) (S : wd_S) : Prop := ∀ i, i + 1 < l.length → (hi : i < l.length) → S.1 114 (16 * D + i) = l[i]
theorem cy_p {l : List Int32} (h : cy_l D l S) (hl : l.length = τ) (h11 : ∀ hi : τ - 1 < l.length, S.1 104 11 = l[τ - 1]) : ∀ i, (hi : i < l.length) → (cc_p D τ S).1 114 (16 * D + i) = l[i] := by
  intro i hi
  unfold cc_p
  rw [if_neg (by omega)]
  by_cases c : i = τ - 1
  · subst c
    rw [fr_eq]
    exact h11 hi
  · rw [fr_ne (by omega)]
    exact h i (by omega) hi
/-- a round that begins a body: frame D -/
theorem cz_subD (hS : cr_S b lim L D0 P r) (hDr : D + r = 160) (h : cz_h b lim L M D0 D fr s m y τ (d + 1) P V t S) (o2 : of_f (fun a k => (a = 108 ∧ k = D) ∨ (a = 114 ∧ 16 * D ≤ k)) S S2) (hτ : S2.1 108 D = Int32.ofNat (τ + 1)) (hr : ∀ F, fn_Runner_work_82 (F + 1) (Int32.ofNat (2 * s - 1 - D)) S = wd_d (fn_Runner_begin (Int32.ofNat z) (Int32.ofNat D) S2) (fn_Runner_work_82 F (Int32.ofNat (2 * s - 1 - D + 1)))) (hv : cv_e D V' S2) {u : tr_T} {e : Nat} (hu : nd_t (b + 1) S 0 L e z u) {D' : Nat} {f : ev_O → Except ev_E ev_O} (hf : ∀ (q : ev_O) (S' : wd_S), cz_h b lim L M D0 D fr q.2.2.1 q.2.2.2 y (τ + 1) (d + 1) P V t S' → S'.1 104 11 = q.1 → cr_O b lim D' fr (cw_W D fr) (f q) (2 * q.2.2.1 - 1 - D) S' S') : cr_O b lim D' fr (cw_W D fr) (ev_b (ev P lim r V' s m u) f) (2 * s - 1 - D) S S := by
  obtain ⟨hb, h1, h2, h3, h4, h5, h6, h7, h8, h9, h10⟩ := h
  have hDs := h1.2.2.2.2.2.2.2.2.2.2
  obtain ⟨S3, f3, c3⟩ := hS D D V' s m z u e S2 hDr (cr_h_o h1 o2 (fun k _ _ => by omega)) (by rw [o2.1 104 12 (by omega)]; exact h2) (Nat.le_refl _) hv (cg_o hb o2 (fun a k h => by omega) h9) (ct_o hb o2 (fun a k h => by omega) hu)
  have e1 : ∀ F, fn_Runner_work_82 (F + 1) (Int32.ofNat (2 * s - 1 - D)) S = fn_Runner_work_82 F (Int32.ofNat (2 * s - D)) S3 := fun F => by
    rw [hr, f3, wd_d_s, show 2 * s - 1 - D + 1 = 2 * s - D by omega]
  have O2 : of_f (cw_W D fr) S S2 := of_mono (fun a k hz => by unfold cw_W; omega) o2
  have c4 := cr_bind (W := cw_W D fr) (W1 := cw_W (D + 1) D) (W2 := cw_W D fr) (f := f) (D' := D') (fr' := fr) c3 (fun q S' k1 k2 k3 k4 k5 => by
    have oo : of_f (fun a k => ((a = 108 ∧ k = D) ∨ (a = 114 ∧ 16 * D ≤ k)) ∨ cw_W (D + 1) D a k) S S' := of_trans (of_mono (fun a k z => Or.inl z) o2) (of_mono (fun a k z => Or.inr z) k4)
    refine hf q S' (cz_next ⟨hb, h1, h2, h3, h4, h5, h6, h7, h8, h9, h10⟩ k1 k3 oo (fun a k hk => ?_) ⟨?_, ?_⟩ ?_ (cv_o oo (fun k _ _ => ?_) h8)) k2
    · unfold cw_W; omega
    · unfold cw_W; omega
    · unfold cw_W; omega
    · rw [k4.1 108 D (by unfold cw_W; omega)]; exact hτ
    · unfold cw_W; omega) (fun a k z => by unfold cw_W at z ⊢; omega) (fun _ _ z => z)
  unfold cr_O at c4 ⊢
  split at c4
  · trivial
  · obtain ⟨g', j, S'', k1, k2, k3, k4, k5, k6, k7, k8⟩ := c4
    exact ⟨g' + 1, j, S'', fun F => by rw [← Nat.add_assoc, e1, k1], by omega, k3, k4, k5, k6, k7, of_trans O2 k8⟩
  · obtain ⟨g', S'', k1, k2, k3, k4, k5, k6, k7⟩ := c4
    exact ⟨g' + 1, S'', fun F => by rw [← Nat.add_assoc, e1, k1], by omega, k3, k4, k5, of_trans O2 k6, k7⟩
theorem cz_call (hS : cr_S b lim L D0 P r) (hDr : D + r = 160) (hM : P.length ≤ M) (hk : tr_k t = 5) (ha : tr_a t ≤ 4) (hn : tr_v t = Int32.ofNat (tr_n t)) (hn2 : tr_n t < P.length) : ∀ (r' j : Nat) (l : List Int32) (V : ev_V) (s m : Nat) (S : wd_S), r' + j = tr_a t → l.length = j → cz_h b lim L M D0 D fr s m y j (d + 1) P V t S → cy_l D l S → (∀ hi : j - 1 < l.length, S.1 104 11 = l[j - 1]) → cr_O b lim (D - 1) fr (cw_W D fr) (ev_b (ev_args (ev P lim r) t r' j V s m) fun q => ev_b (ev P lim r (ev_l (l ++ q.1)) q.2.2.1 q.2.2.2 (P.getD (tr_n t) tr_z)) fun w => .ok (w.1, q.2.1, w.2.2)) (2 * s - 1 - D) S S := by
  have n1 : ¬tr_k t = 1 := by rw [hk]; decide
  have n2 : ¬tr_k t = 2 := by rw [hk]; decide
  have n3 : ¬tr_k t = 3 := by rw [hk]; decide
  have n4 : ¬tr_k t = 4 := by rw [hk]; decide
  have hget : P.getD (tr_n t) tr_z = P[tr_n t] := by rw [List.getD_eq_getElem?_getD, List.getElem?_eq_getElem hn2]; rfl
  intro r'
  induction r' with
  | zero =>
    intro j l V s m S hj hl h hy h11
    have hja : j = tr_a t := by omega
    show cr_O b lim (D - 1) fr (cw_W D fr) (ev_b (ev P lim r (ev_l (l ++ [])) s m (P.getD (tr_n t) tr_z)) fun w => .ok (w.1, V, w.2.2)) (2 * s - 1 - D) S S
    rw [List.append_nil, hget]
    obtain ⟨hb, h1, h2, h3, h4, h5, h6, h7, h8, h9, h10⟩ := id h
    have hb1 := hb.1
    obtain ⟨z, p1, p2⟩ := h9 (tr_n t) hn2
    have tt := cz_t h (Int32.ofNat (j + 1))
    have o27 : of_f (fun a k => a = 108 ∧ k = D) S (wd_i S 108 D (Int32.ofNat (j + 1))) := of_i ⟨rfl, rfl⟩ of_refl
    generalize hS27 : wd_i S 108 D (Int32.ofNat (j + 1)) = S27 at tt o27
    have hτ : S27.1 108 D = Int32.ofNat (j + 1) := by rw [← hS27, fr_eq]
    have hround : ∀ F, fn_Runner_work_82 (F + 1) (Int32.ofNat (2 * s - 1 - D)) S = wd_d (fn_Runner_begin (Int32.ofNat z) (Int32.ofNat D) (cc_p D j S27)) (fn_Runner_work_82 F (Int32.ofNat (2 * s - 1 - D + 1))) := fun F => by
      have hck := cz_k h (Int32.ofNat (j + 1))
      rw [cz_round h, if_neg n1, if_neg n2, if_neg n3, if_neg n4, if_pos hk, hS27]
      rw [hS27] at hck
      have e := cc_body (n := tr_n t) (z := z) hck tt.2.2.1 ha (by rw [tt.2.1, hn]) (by omega) (by rw [o27.1 (b + 15) _ (by omega)]; exact p1)
      rw [hja, e]
    have ho : of_f (fun a k => (a = 108 ∧ k = D) ∨ (a = 114 ∧ 16 * D ≤ k ∧ k < 16 * D + j)) S (cc_p D j S27) := of_trans (of_mono (fun a k z => Or.inl z) o27) (of_mono (fun a k z => Or.inr z) cc_o)
    have hyl := cy_p (D := D) (τ := j) (S := S27) (l := l) (fun i i1 i2 => by rw [o27.1 114 _ (by omega)]; exact hy i i1 i2) hl (fun hi => by rw [o27.1 104 11 (by omega)]; exact h11 hi)
    refine cz_subD (z := z) hS hDr h (of_mono (fun a k z => by omega) ho) (by rw [cc_o.1 108 D (by omega)]; exact hτ) hround (fun i v hi => ?_) p2 (fun q S' h' e11 => ?_)
    · unfold ev_l at hi
      obtain ⟨q1, q2⟩ := List.getElem?_eq_some_iff.mp hi
      exact ⟨by omega, by rw [hyl i q1, q2]⟩
    · have tt' := cz_t h' (Int32.ofNat (j + 1 + 1))
      have := cz_fin (x := Int32.ofNat (j + 1 + 1)) h' (v := q.1) (fun F => by
        have e := cc_end (cz_k h' (Int32.ofNat (j + 1 + 1))) tt'.2.2.1 ha
        rw [← hja] at e
        rw [cz_round h', if_neg n1, if_neg n2, if_neg n3, if_neg n4, if_pos hk, e, fr_ne (by omega), e11])
      exact this
  | succ r' ih =>
    intro j l V s m S hj hl h hy h11
    have hlen : j < tr_a t := by omega
    show cr_O b lim (D - 1) fr (cw_W D fr) (ev_b (ev_b (ev P lim r V s m (tr_sub t j)) fun q => ev_b (ev_args (ev P lim r) t r' (j + 1) q.2.1 q.2.2.1 q.2.2.2) fun w => .ok (q.1 :: w.1, w.2)) _) (2 * s - 1 - D) S S
    rw [ev_b_a]
    obtain ⟨z, k1, k2⟩ := cz_sub0 (j := j) h (by omega) hlen
    have tt := cz_t h (Int32.ofNat (j + 1))
    have o27 : of_f (fun a k => a = 108 ∧ k = D) S (wd_i S 108 D (Int32.ofNat (j + 1))) := of_i ⟨rfl, rfl⟩ of_refl
    have hck := cz_k h (Int32.ofNat (j + 1))
    have k1 := k1 (Int32.ofNat (j + 1))
    have hrd : ∀ F, _ := fun F => cz_round h F
    generalize hS27 : wd_i S 108 D (Int32.ofNat (j + 1)) = S27 at tt o27 hck k1 hrd
    have hτ : S27.1 108 D = Int32.ofNat (j + 1) := by rw [← hS27, fr_eq]
    have hyl := cy_p (D := D) (τ := j) (S := S27) (l := l) (fun i i1 i2 => by rw [o27.1 114 _ (by omega)]; exact hy i i1 i2) hl (fun hi => by rw [o27.1 104 11 (by omega)]; exact h11 hi)
    have h7 := h.2.2.2.2.2.2.2.1
    refine cz_sub (z := z) hS hDr h (W1 := fun a k => a = 114 ∧ 16 * D ≤ k ∧ k < 16 * D + j) (S2 := cc_p D j S27) (of_trans (of_mono (fun a k z => Or.inl z) o27) (of_mono (fun a k z => Or.inr z) cc_o)) (fun a k z => Or.inr ⟨z.1, Or.inr z.2.1⟩) (by rw [cc_o.1 108 D (by omega)]; exact hτ) (fun F => ?_) (cv_o (of_trans (of_mono (fun a k z => Or.inl z) o27) (of_mono (fun a k z => Or.inr z) cc_o)) (fun k _ _ => by omega) h.2.2.2.2.2.2.2.2.1) k2 (fun q S' h' e11 o' => ?_)
    · rw [hrd, if_neg n1, if_neg n2, if_neg n3, if_neg n4, if_pos hk, cc_arg hck tt.2.2.1 ha hlen k1]
    · have e : (ev_b (ev_b (ev_args (ev P lim r) t r' (j + 1) q.2.1 q.2.2.1 q.2.2.2) fun w => (.ok (q.1 :: w.1, w.2) : Except ev_E (List Int32 × ev_V × Nat × Nat))) fun q => ev_b (ev P lim r (ev_l (l ++ q.1)) q.2.2.1 q.2.2.2 (P.getD (tr_n t) tr_z)) fun w => (.ok (w.1, q.2.1, w.2.2) : Except ev_E ev_O)) = ev_b (ev_args (ev P lim r) t r' (j + 1) q.2.1 q.2.2.1 q.2.2.2) fun w => ev_b (ev P lim r (ev_l ((l ++ [q.1]) ++ w.1)) w.2.2.1 w.2.2.2 (P.getD (tr_n t) tr_z)) fun u => .ok (u.1, w.2.1, u.2.2) := by
        rw [ev_b_a]
        congr 1
        funext w
        show ev_b (ev P lim r (ev_l (l ++ q.1 :: w.1)) w.2.2.1 w.2.2.2 (P.getD (tr_n t) tr_z)) _ = _
        rw [show l ++ q.1 :: w.1 = (l ++ [q.1]) ++ w.1 by rw [List.append_assoc]; rfl]
      rw [e]
      refine ih (j + 1) (l ++ [q.1]) q.2.1 q.2.2.1 q.2.2.2 S' (by omega) (by rw [List.length_append, hl]; rfl) h' (fun i i1 i2 => ?_) (fun hi => ?_)
      · have i1 : i + 1 < j + 1 := by rw [List.length_append, hl] at i1; exact i1
        rw [List.getElem_append_left (by omega), o'.1 114 _ (by unfold cw_W; omega)]
        exact hyl i (by omega)
      · rw [e11]
        have : (l ++ [q.1])[j + 1 - 1]'hi = q.1 := by
          have e2 : j + 1 - 1 = l.length := by omega
          simp only [e2, List.getElem_concat_length]
        exact this.symm
/-- an EXPRESSION that is begun -/
theorem cr_I (hS : cr_S b lim L D0 P r) (hb : cb_ok b L M) (hM : P.length ≤ M) (hDr : D + r = 160) (hD : 1 ≤ D) (h : cr_h b lim D s m S) (h12 : S.1 104 12 = 0) (h106 : S.1 106 D = Int32.ofNat y) (h108 : S.1 108 D = Int32.ofNat 0) (h112 : S.1 112 D = Int32.ofNat fr) (hfr : fr < D) (hv : cv_e fr V S) (hP : cg_P b L D0 P S) (ht : nd_t (b + 1) S 0 L d y t) : cr_O b lim (D - 1) fr (cw_W D fr) (ev_in P (ev P lim r) V s m t) (2 * s - 1 - D) S S := by
  cases d with
  | zero => exact absurd ht id
  | succ d =>
    have hz : cz_h b lim L M D0 D fr s m y 0 (d + 1) P V t S := ⟨hb, h, h12, hD, h106, h108, h112, hfr, hv, hP, ht⟩
    unfold ev_in
    by_cases ok : ev_ok P.length t
    · rw [if_pos ok]
      rcases ok with k | ⟨k, k1, k2⟩ | ⟨k, k1, k2, k3⟩ | ⟨k, k1⟩ | ⟨k, k1, k2, k3⟩ | ⟨k, k1⟩
      · rw [if_pos k]
        exact cz_leaf1 hz k
      · rw [if_neg (by rw [k]; decide), if_pos k]
        cases hq : V (tr_n t) with
        | none => trivial
        | some v => exact cz_leaf2 hz k k1 hq
      · rw [if_neg (by rw [k]; decide), if_neg (by rw [k]; decide), if_pos k]
        exact cz_let hS hDr hz k k1 k2 k3
      · rw [if_neg (by rw [k]; decide), if_neg (by rw [k]; decide), if_neg (by rw [k]; decide), if_pos k]
        exact cz_if hS hDr hz k k1
      · rw [if_neg (by rw [k]; decide), if_neg (by rw [k]; decide), if_neg (by rw [k]; decide), if_neg (by rw [k]; decide), if_pos k]
        exact cz_call hS hDr hM k k1 k2 k3 (tr_a t) 0 [] V s m S (by omega) rfl hz (fun i i1 => absurd i1 (Nat.not_lt_zero _)) (fun hi => absurd hi (Nat.not_lt_zero _))
      · rw [if_neg (fun q => by rw [q] at k; exact absurd k (by decide)), if_neg (fun q => by rw [q] at k; exact absurd k (by decide)), if_neg (fun q => by rw [q] at k; exact absurd k (by decide)), if_neg (fun q => by rw [q] at k; exact absurd k (by decide)), if_neg (fun q => by rw [q] at k; exact absurd k (by decide))]
        exact cz_sign hS hDr hz k k1
    · rw [if_neg ok]
      trivial
theorem cr_all (hb : cb_ok b L M) (hM : P.length ≤ M) : ∀ r, cr_S b lim L D0 P r := by
  intro r
  induction r with
  | zero => exact cr_S_0
  | succ r ih => exact cr_S_s (M := M) (fun D fr V s m y t d S h1 h2 h3 h4 h5 h6 h7 h8 h9 h10 h11 => cr_I ih hb hM h1 h2 h3 h4 h5 h6 h7 h8 h9 h10 h11) hb
end Cr5
end
/-! part a09 -/
section
/-! The class's runner: work. -/
def cx_W (a k : Nat) : Prop := (a = 104 ∧ 7 ≤ k ∧ k ≤ 12) ∨ a = 106 ∨ a = 108 ∨ a = 110 ∨ a = 112 ∨ a = 114
def cx_R (a k : Nat) : Prop := a = 104 ∧ (k = 5 ∨ k = 6)
section Wk
variable {b L M D0 lim k p : Nat} {P : List tr_T} {S S' S0 S1 S2 : wd_S} {l : List Int32}
theorem cx_42 (hp : (tp_t (p + 1)).2 = 4) (hp2 : p < 104 ∨ 114 < p) : ∀ (r i F : Nat) (S : wd_S), i + r = 4 → (∀ j, j < i → S.1 114 j = S.1 (p + 1) j) → ∃ S', fn_Runner_work_42 (F + r) b (Int32.ofNat k) p (Int32.ofNat i) S = fn_Runner_work_42 F b (Int32.ofNat k) p (Int32.ofNat 4) S' ∧ of_f (fun a k => a = 114) S S' ∧ ∀ j, j < 4 → S'.1 114 j = S.1 (p + 1) j := by
  intro r
  induction r with
  | zero =>
    intro i F S hi h
    have hi : i = 4 := hi
    subst hi
    exact ⟨S, rfl, of_refl, h⟩
  | succ r ih =>
    intro i F S hi h
    show ∃ S', fn_Runner_work_42 (F + r + 1) b (Int32.ofNat k) p (Int32.ofNat i) S = _ ∧ _
    rw [fn_Runner_work_42, if_pos (show Int32.ofNat i < 4 from (im_lt (m := i) (n := 4) (by omega) (by omega)).mpr (by omega)), ro_at_ok, wd_c_s, ro_put_ok, wd_d_s, ro_an hp (show i < 4 by omega), ro_pn cr_114 (show i < 2576 by omega), im_s]
    have o1 : of_f (fun a k => a = 114) S (wd_i S (113 + 1) i (S.1 (p + 1) i)) := of_i rfl of_refl
    obtain ⟨S2, f2, o2, c2⟩ := ih (i + 1) F (wd_i S (113 + 1) i (S.1 (p + 1) i)) (by omega) (fun j hj => by
      by_cases e : j = i
      · rw [e, fr_e (by omega), fr_ne (by omega)]
      · rw [fr_ne (by omega), fr_ne (by omega)]; exact h j (by omega))
    refine ⟨S2, f2, of_trans o1 o2, fun j hj => ?_⟩
    rw [c2 j hj, fr_ne (by omega)]
theorem sp_work (hb : cb_ok b L M) (hM : P.length ≤ M) (hk : k < P.length) (hP : cg_P b L D0 P S) (hlim : lim ≤ 20000) (hp : (tp_t (p + 1)).2 = 4) (hp2 : p < 103 ∨ 114 < p) (hl4 : l.length ≤ 4) (hl : ∀ i, (hi : i < l.length) → S.1 (p + 1) i = l[i]) : match ev P lim 160 (ev_l l) 0 0 P[k] with
    | .error none => True
    | .error (some e) => ∃ S', fn_Runner_work b (Int32.ofNat k) p (Int32.ofNat lim) S = some (e.1, S') ∧ ¬e.1 = 0 ∧ S'.1 104 9 = Int32.ofNat e.2.1 ∧ S'.1 104 10 = Int32.ofNat e.2.2 ∧ of_r cx_W cx_R S S'
    | .ok q => ∃ S', fn_Runner_work b (Int32.ofNat k) p (Int32.ofNat lim) S = some (1, S') ∧ S'.1 104 11 = q.1 ∧ S'.1 104 9 = Int32.ofNat q.2.2.1 ∧ S'.1 104 10 = Int32.ofNat q.2.2.2 ∧ of_r cx_W cx_R S S' := by
  have hb0 := hb
  obtain ⟨hb1, hb2, hb3, hb4, hb5, hb6, hb7⟩ := hb
  generalize hS1 : wd_i (wd_i (wd_i (wd_i (wd_i (wd_r (wd_r S 104 5 b) 104 6 (b + 1)) 104 7 (Int32.ofNat lim)) 104 8 0) 104 9 0) 104 10 0) 104 12 0 = S1
  have ew : fn_Runner_work b (Int32.ofNat k) p (Int32.ofNat lim) S = fn_Runner_work_42 wd_F b (Int32.ofNat k) p 0 S1 := by
    unfold fn_Runner_work fn_Bodies_trees
    simp only [wd_b]
    rw [wd_c_s, if_pos hb3, hS1]
  have o1 : of_r cx_W cx_R S S1 := by
    rw [← hS1]
    exact ofr_i (by unfold cx_W; omega) (ofr_i (by unfold cx_W; omega) (ofr_i (by unfold cx_W; omega) (ofr_i (by unfold cx_W; omega) (ofr_i (by unfold cx_W; omega) (ofr_r (by unfold cx_R; omega) (ofr_r (by unfold cx_R; omega) ofr_refl))))))
  have r5 : S1.2.2.1 104 5 = b := by rw [← hS1]; rfl
  have r6 : S1.2.2.1 104 6 = b + 1 := by rw [← hS1]; rfl
  have v12 : S1.1 104 12 = 0 := by rw [← hS1, fr_eq]
  have v10 : S1.1 104 10 = 0 := by rw [← hS1, fr_ne (by omega), fr_eq]
  have v9 : S1.1 104 9 = 0 := by rw [← hS1, fr_ne (by omega), fr_ne (by omega), fr_eq]
  have v8 : S1.1 104 8 = 0 := by rw [← hS1, fr_ne (by omega), fr_ne (by omega), fr_ne (by omega), fr_eq]
  have v7 : S1.1 104 7 = Int32.ofNat lim := by rw [← hS1, fr_ne (by omega), fr_ne (by omega), fr_ne (by omega), fr_ne (by omega), fr_eq]
  clear hS1
  obtain ⟨S2, f2, o2, c2⟩ := cx_42 (b := b) (k := k) hp (by omega) 4 0 (999995 + 1) S1 rfl (fun j hj => absurd hj (Nat.not_lt_zero _))
  have f2 : fn_Runner_work_42 wd_F b (Int32.ofNat k) p 0 S1 = fn_Runner_work_42 (999995 + 1) b (Int32.ofNat k) p (Int32.ofNat 4) S2 := f2
  have hg : ∀ a, a < 104 → S2.1 a = S.1 a := fun a ha => funext fun j => by rw [o2.1 a j (by omega), o1.1 a j (by unfold cx_W; omega)]
  have hp1 : ∀ j, S1.1 (p + 1) j = S.1 (p + 1) j := fun j => o1.1 (p + 1) j (by unfold cx_W; omega)
  have P2 : cg_P b L D0 P S2 := fun j hj => by
    obtain ⟨y, h1, h2⟩ := hP j hj
    exact ⟨y, by rw [hg (b + 15) (by omega)]; exact h1, nd_t_g (nd_rows (fun a h1 h2 => hg a (by omega))) _ _ _ h2⟩
  obtain ⟨y, h1, h2⟩ := P2 k hk
  have C2 : cr_h b lim 0 0 0 S2 := ⟨by rw [o2.2.2]; exact r5, by rw [o2.2.2]; exact r6, by rw [o2.1 104 7 (by omega)]; exact v7, by rw [o2.1 104 8 (by omega)]; exact v8, by rw [o2.1 104 9 (by omega)]; exact v9, by rw [o2.1 104 10 (by omega)]; exact v10, hlim, by omega, by omega, by omega, by omega⟩
  obtain ⟨S3, f3, c3⟩ := cr_all (lim := lim) (D0 := D0) hb0 hM 160 0 0 (ev_l l) 0 0 y P[k] D0 S2 rfl C2 (by rw [o2.1 104 12 (by omega)]; exact v12) (Nat.le_refl _) (fun i v hi => by
    unfold ev_l at hi
    obtain ⟨q1, q2⟩ := List.getElem?_eq_some_iff.mp hi
    refine ⟨by omega, ?_⟩
    rw [show 16 * 0 + i = i by omega, c2 i (by omega), hp1, hl i q1, q2]) P2 h2
  have e42 : fn_Runner_work b (Int32.ofNat k) p (Int32.ofNat lim) S = fn_Runner_work_82 wd_F (Int32.ofNat 0) S3 := by
    rw [ew, f2, fn_Runner_work_42, if_neg (show ¬Int32.ofNat 4 < 4 by decide), fo_root, wd_c_s, ro_an (r := b + 14) hb5 (show k < M by omega), h1]
    have f3 : fn_Runner_begin (Int32.ofNat y) 0 S2 = some S3 := f3
    rw [f3, wd_d_s]
    rfl
  have o3 : ∀ S4, of_f (cw_W (0 + 1) 0) S2 S4 → of_r cx_W cx_R S S4 := fun S4 o4 => ofr_trans o1 (ofr_trans (ofr_of (fun a k q => by unfold cx_W; omega) o2) (ofr_of (fun a k q => by unfold cw_W at q; unfold cx_W; omega) o4))
  cases hq : ev P lim 160 (ev_l l) 0 0 P[k] with
  | error e =>
    cases e with
    | none => trivial
    | some e =>
      rw [hq] at c3
      obtain ⟨g, j, S4, k1, k2, k3, k4, k5, k6, k7, k8⟩ := c3
      refine ⟨S4, ?_, k4, k6, k7, o3 S4 k8⟩
      have k1 := k1 (wd_F - g - 1 + 1)
      rw [show wd_F - g - 1 + 1 + g = wd_F by rw [show wd_F = 1000000 from rfl]; omega] at k1
      have k1 : fn_Runner_work_82 wd_F (Int32.ofNat 0) S3 = _ := k1
      rw [e42, k1, cr_end (by rw [k5]; exact k4), k5]
  | ok q =>
    rw [hq] at c3
    obtain ⟨g, S4, k1, k2, k3, k4, k5, k6, k7⟩ := c3
    have k5 : S4.1 104 12 = 1 := by rw [k5, if_pos rfl]
    refine ⟨S4, ?_, k4, k3.2.2.2.2.1, k3.2.2.2.2.2.1, o3 S4 k6⟩
    have hs := k3.2.2.2.2.2.2.2.1
    have k1 := k1 (wd_F - g - 1 + 1)
    rw [show wd_F - g - 1 + 1 + g = wd_F by rw [show wd_F = 1000000 from rfl]; omega] at k1
    have k1 : fn_Runner_work_82 wd_F (Int32.ofNat 0) S3 = _ := k1
    rw [e42, k1, cr_end (by rw [k5]; decide), k5]
end Wk
end
/-! part a10 -/
section
/-! The reference's runner: its state, its tasks. -/
def mv_h (lim D s m E vl k : Nat) (S : wd_S) : Prop := S.1 135 35 = Int32.ofNat k ∧ S.1 135 44 = Int32.ofNat vl ∧ S.1 135 46 = Int32.ofNat E ∧ S.1 135 48 = Int32.ofNat s ∧ S.1 135 49 = Int32.ofNat lim ∧ S.1 135 50 = Int32.ofNat D ∧ S.1 135 51 = Int32.ofNat m ∧ S.1 135 52 = 0 ∧ lim ≤ 20000 ∧ s ≤ lim ∧ D ≤ 160 ∧ m ≤ 160 ∧ E ≤ 161
def me_e (E : Nat) (V : ev_V) (S : wd_S) : Prop := ∀ s v, V s = some v → s < 16 ∧ S.1 158 (16 * E + s) = v
def mgW (k vl E a b : Nat) : Prop := (a = 135 ∧ (b = 35 ∨ b = 44 ∨ b = 46 ∨ b = 47 ∨ b = 48 ∨ b = 50 ∨ b = 51 ∨ b = 52)) ∨ ((a = 152 ∨ a = 153) ∧ k ≤ b) ∨ (a = 157 ∧ vl ≤ b) ∨ (a = 158 ∧ 16 * E ≤ b)
def gq_go (g : Nat) (S S' : wd_S) : Prop := ∀ F, fn_Mo_goes_46 (F + g) S = fn_Mo_goes_46 F S'
def mg_O (lim D E vl k : Nat) (W : Nat → Nat → Prop) (s0 a : Nat) (x : Except ev_E ev_O) (S : wd_S) : Prop := match x with
  | .error none => True
  | .error (some e) => ∃ g S', gq_go g S S' ∧ g + 8 * s0 ≤ 8 * e.2.1 + a + 1 ∧ e.2.1 ≤ lim ∧ ¬e.1 = 0 ∧ S'.1 135 52 = e.1 ∧ S'.1 135 48 = Int32.ofNat e.2.1 ∧ S'.1 135 51 = Int32.ofNat e.2.2 ∧ of_f W S S'
  | .ok q => ∃ g S', gq_go g S S' ∧ g + 8 * s0 ≤ 8 * q.2.2.1 + a ∧ mv_h lim D q.2.2.1 q.2.2.2 E vl k S' ∧ S'.1 135 47 = q.1 ∧ me_e E q.2.1 S' ∧ of_f W S S'
section Mg
variable {lim D s m E vl k s0 a D' E' vl' k' a' y n : Nat} {P : List tr_T} {S S' S1 S2 : wd_S} {V V' : ev_V} {t : tr_T} {v x τ : Int32} {W W1 W2 : Nat → Nat → Prop}
theorem gq_t {g g' : Nat} (h1 : gq_go g S S1) (h2 : gq_go g' S1 S2) : gq_go (g + g') S S2 := fun F => by
  rw [show F + (g + g') = (F + g') + g by omega, h1, h2]
theorem mgW_le (h1 : k ≤ k') (h2 : vl ≤ vl') (h3 : E ≤ E') : ∀ a b, mgW k' vl' E' a b → mgW k vl E a b := by
  rintro a b (h | h | h | h)
  · exact Or.inl h
  · exact Or.inr (Or.inl ⟨h.1, by omega⟩)
  · exact Or.inr (Or.inr (Or.inl ⟨h.1, by omega⟩))
  · exact Or.inr (Or.inr (Or.inr ⟨h.1, by omega⟩))
theorem mg_step {x : Except ev_E ev_O} (h1 : gq_go 1 S S1) (o1 : of_f W S S1) (h2 : mg_O lim D E vl k W2 s0 a x S1) (w2 : ∀ a b, W2 a b → W a b) : mg_O lim D E vl k W s0 (a + 1) x S := by
  unfold mg_O at h2 ⊢
  split at h2
  · trivial
  · obtain ⟨g, S', k1, k2, k3, k4, k5, k6, k7, k8⟩ := h2
    exact ⟨1 + g, S', gq_t h1 k1, by omega, k3, k4, k5, k6, k7, of_trans o1 (of_mono w2 k8)⟩
  · obtain ⟨g, S', k1, k2, k3, k4, k5, k6⟩ := h2
    exact ⟨1 + g, S', gq_t h1 k1, by omega, k3, k4, k5, of_trans o1 (of_mono w2 k6)⟩
theorem mg_bind {x : Except ev_E ev_O} {f : ev_O → Except ev_E ev_O} (h : mg_O lim D E vl k W1 s0 0 x S) (hf : ∀ (q : ev_O) (S' : wd_S), mv_h lim D q.2.2.1 q.2.2.2 E vl k S' → S'.1 135 47 = q.1 → me_e E q.2.1 S' → of_f W1 S S' → mg_O lim D' E' vl' k' W2 q.2.2.1 a (f q) S') (w1 : ∀ a b, W1 a b → W a b) (w2 : ∀ a b, W2 a b → W a b) : mg_O lim D' E' vl' k' W s0 a (ev_b x f) S := by
  cases x with
  | error e =>
    cases e with
    | none => trivial
    | some e =>
      obtain ⟨g, S', k1, k2, k3, k4, k5, k6, k7, k8⟩ := h
      exact ⟨g, S', k1, by omega, k3, k4, k5, k6, k7, of_mono w1 k8⟩
  | ok q =>
    obtain ⟨g, S', k1, k2, k3, k4, k5, k6⟩ := h
    have hq := hf q S' k3 k4 k5 k6
    show mg_O lim D' E' vl' k' W s0 a (f q) S
    unfold mg_O at hq ⊢
    split at hq
    · trivial
    · obtain ⟨g', S'', l1, l2, l3, l4, l5, l6, l7, l8⟩ := hq
      exact ⟨g + g', S'', gq_t k1 l1, by omega, l3, l4, l5, l6, l7, of_trans (of_mono w1 k6) (of_mono w2 l8)⟩
    · obtain ⟨g', S'', l1, l2, l3, l4, l5, l6⟩ := hq
      exact ⟨g + g', S'', gq_t k1 l1, by omega, l3, l4, l5, of_trans (of_mono w1 k6) (of_mono w2 l6)⟩
/-- a task is taken up -/
theorem gq_pop (h : mv_h lim D s m E vl (k + 1) S) (hk : k < 4000) (F : Nat) : fn_Mo_goes_46 (F + 1) S = (if S.1 152 k = 1 then wd_d (fn_Mo_work (S.1 153 k) (wd_i S 135 35 (Int32.ofNat k))) (fn_Mo_goes_46 F) else if S.1 152 k = 2 then fn_Mo_goes_46 F (wd_i (wd_i S 135 35 (Int32.ofNat k)) 135 50 (Int32.ofNat D - 1)) else if S.1 152 k = 3 then fn_Mo_goes_46 F (wd_i (wd_i S 135 35 (Int32.ofNat k)) 135 46 (Int32.ofNat E - 1)) else if S.1 152 k = 4 then (if Int32.ofNat vl < 0 ∨ 4000 ≤ (Int32.ofNat vl).toNatClampNeg then none else fn_Mo_goes_46 F (wd_i (wd_i (wd_i S 135 35 (Int32.ofNat k)) 157 (Int32.ofNat vl).toNatClampNeg (S.1 135 47)) 135 44 (Int32.ofNat (vl + 1)))) else if S.1 152 k = 5 then (if Int32.ofNat vl - 1 < 0 ∨ 4000 ≤ (Int32.ofNat vl - 1).toNatClampNeg then none else wd_c (fn_Mo_applied (S.1 153 k) (S.1 157 (Int32.ofNat vl - 1).toNatClampNeg) (S.1 135 47) (wd_i (wd_i S 135 35 (Int32.ofNat k)) 135 44 (Int32.ofNat vl - 1))) fun x S => fn_Mo_goes_46 F (wd_i S 135 47 x)) else if S.1 152 k = 6 then (if S.1 135 47 = 0 then (if S.1 153 k < 0 ∨ 15010 ≤ (S.1 153 k).toNatClampNeg then none else wd_d (fn_Mo_push 1 (S.1 146 (S.1 153 k).toNatClampNeg) (wd_i S 135 35 (Int32.ofNat k))) (fn_Mo_goes_46 F)) else (if S.1 153 k < 0 ∨ 15010 ≤ (S.1 153 k).toNatClampNeg then none else wd_d (fn_Mo_push 1 (S.1 145 (S.1 153 k).toNatClampNeg) (wd_i S 135 35 (Int32.ofNat k))) (fn_Mo_goes_46 F))) else if S.1 152 k = 7 then (if S.1 153 k < 0 ∨ 15010 ≤ (S.1 153 k).toNatClampNeg then none else if 16 * Int32.ofNat E + S.1 146 (S.1 153 k).toNatClampNeg < 0 ∨ 2640 ≤ (16 * Int32.ofNat E + S.1 146 (S.1 153 k).toNatClampNeg).toNatClampNeg then none else if S.1 153 k < 0 ∨ 15010 ≤ (S.1 153 k).toNatClampNeg then none else wd_d (fn_Mo_push 1 (S.1 145 (S.1 153 k).toNatClampNeg) (wd_i (wd_i S 135 35 (Int32.ofNat k)) 158 (16 * Int32.ofNat E + S.1 146 (S.1 153 k).toNatClampNeg).toNatClampNeg (S.1 135 47))) (fn_Mo_goes_46 F)) else if S.1 152 k = 8 then (if S.1 153 k < 0 ∨ 15010 ≤ (S.1 153 k).toNatClampNeg then none else fn_Mo_goes_312 (fn_Mo_goes_46 F) wd_F (S.1 153 k) 0 (wd_i (wd_i (wd_i S 135 35 (Int32.ofNat k)) 135 46 (Int32.ofNat (E + 1))) 135 44 (Int32.ofNat vl - S.1 145 (S.1 153 k).toNatClampNeg))) else fn_Mo_goes_46 F (wd_i (wd_i S 135 35 (Int32.ofNat k)) 135 46 (Int32.ofNat E - 1))) := by
  obtain ⟨a1, a2, a3, a4, a5, a6, a7, a8, -⟩ := h
  rw [fn_Mo_goes_46, a1, if_pos (show (0 : Int32) < Int32.ofNat (k + 1) from (im_lt (m := 0) (n := k + 1) (by omega) (by omega)).mpr (by omega)), if_pos a8]
  unfold fn_Mo_goes_413 fn_Mo_goes_241 fn_Mo_goes_413
  simp only [wd_b]
  have hk1 := im_p k
  generalize hS15 : wd_i S 135 35 (Int32.ofNat k) = S15
  have o1 : of_f (fun a b => a = 135 ∧ b = 35) S S15 := by rw [← hS15]; exact of_i ⟨rfl, rfl⟩ of_refl
  have e35 : S15.1 135 35 = Int32.ofNat k := by rw [← hS15, fr_eq]
  have e44 : S15.1 135 44 = Int32.ofNat vl := by rw [o1.1 135 44 (by omega)]; exact a2
  have e46 : S15.1 135 46 = Int32.ofNat E := by rw [o1.1 135 46 (by omega)]; exact a3
  have e47 : S15.1 135 47 = S.1 135 47 := o1.1 135 47 (by omega)
  have e50 : S15.1 135 50 = Int32.ofNat D := by rw [o1.1 135 50 (by omega)]; exact a6
  have et : ∀ b, S15.1 152 b = S.1 152 b ∧ S15.1 153 b = S.1 153 b ∧ S15.1 145 b = S.1 145 b ∧ S15.1 146 b = S.1 146 b ∧ S15.1 157 b = S.1 157 b := fun b => ⟨o1.1 _ _ (by omega), o1.1 _ _ (by omega), o1.1 _ _ (by omega), o1.1 _ _ (by omega), o1.1 _ _ (by omega)⟩
  have hS15' : wd_i S 135 35 (Int32.ofNat (k + 1) - 1) = S15 := by rw [hk1]; exact hS15
  rw [hS15', e35, if_neg (ms_in hk (by decide)), if_neg (ms_in hk (by decide)), im_t (show k < 2147483648 by omega), (et k).1, (et k).2.1, e50, e46, e44, e47]
  simp only [(et _).2.2.1, (et _).2.2.2.1]
  have f44 : ∀ x v, (wd_i S15 157 x v).1 135 44 = Int32.ofNat vl := fun x v => by rw [fr_ne (by omega)]; exact e44
  have f44' : (wd_i S15 135 44 (Int32.ofNat vl - 1)).1 135 44 = Int32.ofNat vl - 1 := fr_eq
  have f157 : ∀ x, (wd_i S15 135 44 x).1 157 = S15.1 157 := fun x => fr_row _ (by decide)
  have f47 : ∀ x, (wd_i S15 135 44 x).1 135 47 = S.1 135 47 := fun x => by rw [fr_ne (by omega)]; exact e47
  have f145 : ∀ x v, (wd_i S15 158 x v).1 145 = S15.1 145 := fun x v => fr_row _ (by decide)
  have f44'' : ∀ x, (wd_i S15 135 46 x).1 135 44 = Int32.ofNat vl := fun x => by rw [fr_ne (by omega)]; exact e44
  have f145' : ∀ x, (wd_i S15 135 46 x).1 145 = S15.1 145 := fun x => fr_row _ (by decide)
  have q157 : S15.1 157 = S.1 157 := funext fun b => (et b).2.2.2.2
  have q145 : S15.1 145 = S.1 145 := funext fun b => (et b).2.2.1
  rw [f44, f44', f157, f47, f44'', f145', q157, q145, im_s, im_s]
  simp only [f145, q145]
end Mg
end
/-! part a11 -/
section
/-! The reference's runner: what each task does. -/
section Mg2
variable {lim D s m E vl k s0 a D' E' vl' k' a' y n : Nat} {P : List tr_T} {S S' S1 S2 : wd_S} {V V' : ev_V} {t : tr_T} {v x τ kd : Int32} {W W1 W2 : Nat → Nat → Prop}
theorem gt_up (h : mv_h lim (D + 1) s m E vl (k + 1) S) (hk : k < 4000) (h1 : S.1 152 k = 2) : ∃ S', gq_go 1 S S' ∧ mv_h lim D s m E vl k S' ∧ of_f (fun a b => a = 135 ∧ (b = 35 ∨ b = 50)) S S' := by
  refine ⟨wd_i (wd_i S 135 35 (Int32.ofNat k)) 135 50 (Int32.ofNat D), fun F => ?_, ?_, of_i (by omega) (of_i (by omega) of_refl)⟩
  · rw [gq_pop h hk, if_neg (by rw [h1]; decide), if_pos h1, im_p]
  · obtain ⟨a1, a2, a3, a4, a5, a6, a7, a8, a9, a10, a11, a12, a13⟩ := h
    have e : ∀ b, b ≠ 35 → b ≠ 50 → (wd_i (wd_i S 135 35 (Int32.ofNat k)) 135 50 (Int32.ofNat D)).1 135 b = S.1 135 b := fun b z1 z2 => by rw [fr_ne (by omega), fr_ne (by omega)]
    exact ⟨by rw [fr_ne (by omega), fr_eq], (e 44 (by decide) (by decide)).trans a2, (e 46 (by decide) (by decide)).trans a3, (e 48 (by decide) (by decide)).trans a4, (e 49 (by decide) (by decide)).trans a5, fr_eq, (e 51 (by decide) (by decide)).trans a7, (e 52 (by decide) (by decide)).trans a8, a9, a10, by omega, a12, a13⟩
theorem gt_leave (h : mv_h lim D s m (E + 1) vl (k + 1) S) (hk : k < 4000) (h1 : S.1 152 k = 9) : ∃ S', gq_go 1 S S' ∧ mv_h lim D s m E vl k S' ∧ of_f (fun a b => a = 135 ∧ (b = 35 ∨ b = 46)) S S' := by
  refine ⟨wd_i (wd_i S 135 35 (Int32.ofNat k)) 135 46 (Int32.ofNat E), fun F => ?_, ?_, of_i (by omega) (of_i (by omega) of_refl)⟩
  · rw [gq_pop h hk, if_neg (by rw [h1]; decide), if_neg (by rw [h1]; decide), if_neg (by rw [h1]; decide), if_neg (by rw [h1]; decide), if_neg (by rw [h1]; decide), if_neg (by rw [h1]; decide), if_neg (by rw [h1]; decide), if_neg (by rw [h1]; decide), im_p]
  · obtain ⟨a1, a2, a3, a4, a5, a6, a7, a8, a9, a10, a11, a12, a13⟩ := h
    have e : ∀ b, b ≠ 35 → b ≠ 46 → (wd_i (wd_i S 135 35 (Int32.ofNat k)) 135 46 (Int32.ofNat E)).1 135 b = S.1 135 b := fun b z1 z2 => by rw [fr_ne (by omega), fr_ne (by omega)]
    exact ⟨by rw [fr_ne (by omega), fr_eq], (e 44 (by decide) (by decide)).trans a2, fr_eq, (e 48 (by decide) (by decide)).trans a4, (e 49 (by decide) (by decide)).trans a5, (e 50 (by decide) (by decide)).trans a6, (e 51 (by decide) (by decide)).trans a7, (e 52 (by decide) (by decide)).trans a8, a9, a10, a11, a12, by omega⟩
theorem gt_keep (h : mv_h lim D s m E vl (k + 1) S) (hk : k < 4000) (hv : vl < 4000) (h1 : S.1 152 k = 4) : ∃ S', gq_go 1 S S' ∧ mv_h lim D s m E (vl + 1) k S' ∧ S'.1 157 vl = S.1 135 47 ∧ of_f (fun a b => (a = 135 ∧ (b = 35 ∨ b = 44)) ∨ (a = 157 ∧ b = vl)) S S' := by
  refine ⟨wd_i (wd_i (wd_i S 135 35 (Int32.ofNat k)) 157 vl (S.1 135 47)) 135 44 (Int32.ofNat (vl + 1)), fun F => ?_, ?_, ?_, of_i (by omega) (of_i (by omega) (of_i (by omega) of_refl))⟩
  · rw [gq_pop h hk, if_neg (by rw [h1]; decide), if_neg (by rw [h1]; decide), if_neg (by rw [h1]; decide), if_pos h1, if_neg (ms_in hv (by decide)), im_t (show vl < 2147483648 by omega)]
  · obtain ⟨a1, a2, a3, a4, a5, a6, a7, a8, a9, a10, a11, a12, a13⟩ := h
    have e : ∀ b, b ≠ 35 → b ≠ 44 → (wd_i (wd_i (wd_i S 135 35 (Int32.ofNat k)) 157 vl (S.1 135 47)) 135 44 (Int32.ofNat (vl + 1))).1 135 b = S.1 135 b := fun b z1 z2 => by rw [fr_ne (by omega), fr_ne (by omega), fr_ne (by omega)]
    exact ⟨by rw [fr_ne (by omega), fr_ne (by omega), fr_eq], fr_eq, (e 46 (by decide) (by decide)).trans a3, (e 48 (by decide) (by decide)).trans a4, (e 49 (by decide) (by decide)).trans a5, (e 50 (by decide) (by decide)).trans a6, (e 51 (by decide) (by decide)).trans a7, (e 52 (by decide) (by decide)).trans a8, a9, a10, a11, a12, a13⟩
  · rw [fr_ne (by omega), fr_eq]
theorem mo_appl {c : Int32} (hk : kd = 6 ∨ kd = 7 ∨ kd = 8 ∨ kd = 9 ∨ kd = 10) : fn_Mo_applied (lx_cv kd) v c S = some (ev_sg kd v c, S) := by
  unfold fn_Mo_applied fn_Mo_applied_65 ev_sg
  rcases hk with h | h | h | h | h <;> rw [h]
  · rw [if_pos (show lx_cv 6 = 19 by decide), if_pos rfl]
  · rw [if_neg (show ¬lx_cv 7 = 19 by decide), if_pos (show lx_cv 7 = 20 by decide), if_neg (by decide), if_pos rfl]
  · rw [if_neg (show ¬lx_cv 8 = 19 by decide), if_neg (show ¬lx_cv 8 = 20 by decide), if_pos (show lx_cv 8 = 21 by decide), if_neg (by decide), if_neg (by decide), if_pos rfl]
  · rw [if_neg (show ¬lx_cv 9 = 19 by decide), if_neg (show ¬lx_cv 9 = 20 by decide), if_neg (show ¬lx_cv 9 = 21 by decide), if_pos (show lx_cv 9 = 22 by decide), if_neg (show ¬(9 : Int32) = 6 by decide), if_neg (show ¬(9 : Int32) = 7 by decide), if_neg (show ¬(9 : Int32) = 8 by decide), if_pos (show (9 : Int32) = 9 from rfl)]
    split <;> rfl
  · rw [if_neg (show ¬lx_cv 10 = 19 by decide), if_neg (show ¬lx_cv 10 = 20 by decide), if_neg (show ¬lx_cv 10 = 21 by decide), if_neg (show ¬lx_cv 10 = 22 by decide), if_neg (show ¬(10 : Int32) = 6 by decide), if_neg (show ¬(10 : Int32) = 7 by decide), if_neg (show ¬(10 : Int32) = 8 by decide), if_neg (show ¬(10 : Int32) = 9 by decide)]
    split <;> rfl
theorem gt_apply (hkd : kd = 6 ∨ kd = 7 ∨ kd = 8 ∨ kd = 9 ∨ kd = 10) (h : mv_h lim D s m E (vl + 1) (k + 1) S) (hk : k < 4000) (hv : vl < 4000) (h1 : S.1 152 k = 5) (h2 : S.1 153 k = lx_cv kd) : ∃ S', gq_go 1 S S' ∧ mv_h lim D s m E vl k S' ∧ S'.1 135 47 = ev_sg kd (S.1 157 vl) (S.1 135 47) ∧ of_f (fun a b => a = 135 ∧ (b = 35 ∨ b = 44 ∨ b = 47)) S S' := by
  refine ⟨wd_i (wd_i (wd_i S 135 35 (Int32.ofNat k)) 135 44 (Int32.ofNat vl)) 135 47 (ev_sg kd (S.1 157 vl) (S.1 135 47)), fun F => ?_, ?_, fr_eq, of_i (by omega) (of_i (by omega) (of_i (by omega) of_refl))⟩
  · rw [gq_pop h hk, if_neg (by rw [h1]; decide), if_neg (by rw [h1]; decide), if_neg (by rw [h1]; decide), if_neg (by rw [h1]; decide), if_pos h1, im_p, if_neg (ms_in hv (by decide)), im_t (show vl < 2147483648 by omega), h2, mo_appl hkd, wd_c_s]
  · obtain ⟨a1, a2, a3, a4, a5, a6, a7, a8, a9, a10, a11, a12, a13⟩ := h
    have e : ∀ b, b ≠ 35 → b ≠ 44 → b ≠ 47 → (wd_i (wd_i (wd_i S 135 35 (Int32.ofNat k)) 135 44 (Int32.ofNat vl)) 135 47 (ev_sg kd (S.1 157 vl) (S.1 135 47))).1 135 b = S.1 135 b := fun b z1 z2 z3 => by rw [fr_ne (by omega), fr_ne (by omega), fr_ne (by omega)]
    exact ⟨by rw [fr_ne (by omega), fr_ne (by omega), fr_eq], by rw [fr_ne (by omega), fr_eq], (e 46 (by decide) (by decide) (by decide)).trans a3, (e 48 (by decide) (by decide) (by decide)).trans a4, (e 49 (by decide) (by decide) (by decide)).trans a5, (e 50 (by decide) (by decide) (by decide)).trans a6, (e 51 (by decide) (by decide) (by decide)).trans a7, (e 52 (by decide) (by decide) (by decide)).trans a8, a9, a10, a11, a12, a13⟩
/-- a push onto the tasks of a run -/
theorem mv_push (h : mv_h lim D s m E vl k S) : mv_h lim D s m E vl (k + 1) (ms_p k x v S) := by
  obtain ⟨a1, a2, a3, a4, a5, a6, a7, a8, a9⟩ := h
  have e : ∀ b, b ≠ 35 → (ms_p k x v S).1 135 b = S.1 135 b := fun b z => ms_o.1 135 b (by unfold mw_p; omega)
  exact ⟨ms_35, (e 44 (by decide)).trans a2, (e 46 (by decide)).trans a3, (e 48 (by decide)).trans a4, (e 49 (by decide)).trans a5, (e 50 (by decide)).trans a6, (e 51 (by decide)).trans a7, (e 52 (by decide)).trans a8, a9⟩
theorem mv_o (h : mv_h lim D s m E vl k S) (ho : of_f W S S') (hW : ∀ b, b = 44 ∨ b = 46 ∨ (48 ≤ b ∧ b ≤ 52) → ¬W 135 b) (e35 : S'.1 135 35 = Int32.ofNat k') : mv_h lim D s m E vl k' S' := by
  obtain ⟨a1, a2, a3, a4, a5, a6, a7, a8, a9⟩ := h
  exact ⟨e35, (ho.1 135 44 (hW 44 (by omega))).trans a2, (ho.1 135 46 (hW 46 (by omega))).trans a3, (ho.1 135 48 (hW 48 (by omega))).trans a4, (ho.1 135 49 (hW 49 (by omega))).trans a5, (ho.1 135 50 (hW 50 (by omega))).trans a6, (ho.1 135 51 (hW 51 (by omega))).trans a7, (ho.1 135 52 (hW 52 (by omega))).trans a8, a9⟩
theorem gt_choose {z : Int32} (h : mv_h lim D s m E vl (k + 1) S) (hk : k < 4000) (hy : y < 15010) (h1 : S.1 152 k = 6) (h2 : S.1 153 k = Int32.ofNat y) (hz : (if S.1 135 47 = 0 then S.1 146 y else S.1 145 y) = z) : ∃ S', gq_go 1 S S' ∧ mv_h lim D s m E vl (k + 1) S' ∧ S'.1 152 k = 1 ∧ S'.1 153 k = z ∧ of_f (fun a b => (a = 135 ∧ b = 35) ∨ ((a = 152 ∨ a = 153) ∧ b = k)) S S' := by
  have o1 : of_f (fun a b => (a = 135 ∧ b = 35) ∨ ((a = 152 ∨ a = 153) ∧ b = k)) S (ms_p k 1 z (wd_i S 135 35 (Int32.ofNat k))) := of_trans (of_i (by omega) of_refl) (of_mono (fun a b z => by unfold mw_p at z; omega) ms_o)
  refine ⟨ms_p k 1 z (wd_i S 135 35 (Int32.ofNat k)), fun F => ?_, mv_o h o1 (fun b hb => by omega) ms_35, by rw [ms_152, if_pos rfl], by rw [ms_153, if_pos rfl], o1⟩
  rw [gq_pop h hk, if_neg (by rw [h1]; decide), if_neg (by rw [h1]; decide), if_neg (by rw [h1]; decide), if_neg (by rw [h1]; decide), if_neg (by rw [h1]; decide), if_pos h1, h2, if_neg (ms_in hy (by decide)), im_t (show y < 2147483648 by omega)]
  by_cases c : S.1 135 47 = 0
  · rw [if_pos c] at hz ⊢
    rw [hz, ms_push (t := k) fr_eq hk, wd_d_s]
  · rw [if_neg c] at hz ⊢
    rw [if_neg (by rintro (z | z); exact im_neg (by omega) z; omega), hz, ms_push (t := k) fr_eq hk, wd_d_s]
theorem gt_bind {z : Int32} (h : mv_h lim D s m E vl (k + 1) S) (hk : k < 4000) (hy : y < 15010) (hE : E ≤ 160) (h1 : S.1 152 k = 7) (h2 : S.1 153 k = Int32.ofNat y) (hn : S.1 146 y = Int32.ofNat n) (hn2 : n < 16) (hz : S.1 145 y = z) : ∃ S', gq_go 1 S S' ∧ mv_h lim D s m E vl (k + 1) S' ∧ S'.1 152 k = 1 ∧ S'.1 153 k = z ∧ S'.1 158 (16 * E + n) = S.1 135 47 ∧ of_f (fun a b => (a = 135 ∧ b = 35) ∨ ((a = 152 ∨ a = 153) ∧ b = k) ∨ (a = 158 ∧ b = 16 * E + n)) S S' := by
  have o1 : of_f (fun a b => (a = 135 ∧ b = 35) ∨ ((a = 152 ∨ a = 153) ∧ b = k) ∨ (a = 158 ∧ b = 16 * E + n)) S (ms_p k 1 z (wd_i (wd_i S 135 35 (Int32.ofNat k)) 158 (16 * E + n) (S.1 135 47))) := of_trans (of_i (by omega) (of_i (by omega) of_refl)) (of_mono (fun a b z => by unfold mw_p at z; omega) ms_o)
  have e1 : (16 : Int32) * Int32.ofNat E + Int32.ofNat n = Int32.ofNat (16 * E + n) := by
    rw [show (16 : Int32) = Int32.ofNat 16 from rfl, im_ma]
  refine ⟨ms_p k 1 z (wd_i (wd_i S 135 35 (Int32.ofNat k)) 158 (16 * E + n) (S.1 135 47)), fun F => ?_, mv_o h o1 (fun b hb => by omega) ms_35, by rw [ms_152, if_pos rfl], by rw [ms_153, if_pos rfl], ?_, o1⟩
  · rw [gq_pop h hk, if_neg (by rw [h1]; decide), if_neg (by rw [h1]; decide), if_neg (by rw [h1]; decide), if_neg (by rw [h1]; decide), if_neg (by rw [h1]; decide), if_neg (by rw [h1]; decide), if_pos h1, h2, if_neg (ms_in hy (by decide)), im_t (show y < 2147483648 by omega), hn, e1, if_neg (ms_in (show 16 * E + n < 2640 by omega) (by decide)), im_t (show 16 * E + n < 2147483648 by omega), if_neg (by rintro (z | z); exact im_neg (by omega) z; omega), hz, ms_push (t := k) (by rw [fr_ne (by omega), fr_eq]) hk, wd_d_s]
  · rw [ms_o.1 158 _ (by unfold mw_p; omega), fr_eq]
end Mg2
end
/-! part a12 -/
section
/-! The reference's runner: entering a function; begin. -/
section Mg3
variable {lim D s m E vl k s0 a D' E' vl' k' a' y n lo hi X Rt R2 : Nat} {P : List tr_T} {S S' S1 S2 : wd_S} {V V' : ev_V} {t : tr_T} {v x τ kd root : Int32} {W W1 W2 : Nat → Nat → Prop}
/-- where a call's body is found: of the program, or of versions -/
def mg_r (y Rt R2 : Nat) : Prop := (Rt = 140 ∧ y < 3004 ∧ R2 = 96) ∨ (Rt = 162 ∧ 3004 ≤ y ∧ y < 15010 ∧ R2 = 160)
theorem gt_312 (hy : mg_r y Rt R2) (ha : a ≤ 4) (hv : vl + a ≤ 4000) (hE : E ≤ 161) (hn : n < R2) : ∀ (r j F : Nat) (S : wd_S), j + r = a → S.1 135 35 = Int32.ofNat k → k + 2 ≤ 4000 → S.1 135 44 = Int32.ofNat vl → S.1 135 46 = Int32.ofNat E → S.1 145 y = Int32.ofNat a → S.1 146 y = Int32.ofNat n → S.1 Rt n = root → (∀ i, i < j → S.1 158 (16 * E + i) = S.1 157 (vl + i)) → ∃ S', (∀ kk, fn_Mo_goes_312 kk (F + 1 + r) (Int32.ofNat y) (Int32.ofNat j) S = kk S') ∧ (∀ i, i < a → S'.1 158 (16 * E + i) = S.1 157 (vl + i)) ∧ S'.1 135 35 = Int32.ofNat (k + 2) ∧ S'.1 152 k = 9 ∧ S'.1 152 (k + 1) = 1 ∧ S'.1 153 (k + 1) = root ∧ of_f (fun a' b => (a' = 135 ∧ b = 35) ∨ ((a' = 152 ∨ a' = 153) ∧ k ≤ b) ∨ (a' = 158 ∧ 16 * E ≤ b ∧ b < 16 * E + a)) S S' := by
  have hy2 : y < 15010 := by rcases hy with h | h <;> omega
  intro r
  induction r with
  | zero =>
    intro j F S hj h35 hk h44 h46 h145 h146 hR hc
    have hj : j = a := hj
    subst hj
    have hin : ¬(Int32.ofNat y < 0 ∨ 15010 ≤ y) := by rintro (z | z); exact im_neg (by omega) z; omega
    have q1 : ∀ a, a = 140 ∨ a = 146 ∨ a = 162 → ∀ b, (ms_p k 9 (Int32.ofNat y) S).1 a b = S.1 a b := fun a ha b => ms_o.1 a b (by unfold mw_p; omega)
    have o1 : of_f (fun a' b => (a' = 135 ∧ b = 35) ∨ ((a' = 152 ∨ a' = 153) ∧ k ≤ b) ∨ (a' = 158 ∧ 16 * E ≤ b ∧ b < 16 * E + j)) S (ms_p (k + 1) 1 root (ms_p k 9 (Int32.ofNat y) S)) := of_trans (of_mono (fun a b z => by unfold mw_p at z; omega) ms_o) (of_mono (fun a b z => by unfold mw_p at z; omega) ms_o)
    refine ⟨ms_p (k + 1) 1 root (ms_p k 9 (Int32.ofNat y) S), ?_, ?_, ms_35, ?_, ?_, ?_, o1⟩
    · intro kk
      show fn_Mo_goes_312 kk (F + 1) (Int32.ofNat y) (Int32.ofNat j) S = _
      rw [fn_Mo_goes_312, if_neg (ms_in hy2 (by decide)), im_t (show y < 2147483648 by omega), h145, if_neg (fun q => by have := (im_lt (by omega) (by omega)).mp q; omega), ms_push h35 (by omega), wd_d_s]
      unfold fn_Mo_goes_397 fn_Mo_goes_413
      rcases hy with ⟨e1, e2, e3⟩ | ⟨e1, e2, e3, e4⟩
      · subst e1
        subst e3
        rw [if_pos (show Int32.ofNat y < 3004 from (im_lt (m := y) (n := 3004) (by omega) (by omega)).mpr e2), if_neg hin, q1 146 (by omega), h146, if_neg (ms_in hn (by decide)), im_t (show n < 2147483648 by omega), q1 140 (by omega), hR, ms_push (t := k + 1) ms_35 (by omega), wd_d_s]
      · subst e1
        subst e4
        rw [if_neg (show ¬Int32.ofNat y < 3004 from fun q => by have := (im_lt (m := y) (n := 3004) (by omega) (by omega)).mp q; omega), if_neg hin, q1 146 (by omega), h146, if_neg (ms_in hn (by decide)), im_t (show n < 2147483648 by omega), q1 162 (by omega), hR, ms_push (t := k + 1) ms_35 (by omega), wd_d_s]
    · intro i hi
      rw [ms_o.1 158 _ (by unfold mw_p; omega), ms_o.1 158 _ (by unfold mw_p; omega)]
      exact hc i hi
    · rw [ms_152, if_neg (by omega), ms_152, if_pos rfl]
    · rw [ms_152, if_pos rfl]
    · rw [ms_153, if_pos rfl]
  | succ r ih =>
    intro j F S hj h35 hk h44 h46 h145 h146 hR hc
    have e1 : Int32.ofNat vl + Int32.ofNat j = Int32.ofNat (vl + j) := (Int32.ofNat_add _ _).symm
    have e2 : (16 : Int32) * Int32.ofNat E + Int32.ofNat j = Int32.ofNat (16 * E + j) := by rw [show (16 : Int32) = Int32.ofNat 16 from rfl, im_ma]
    have hst : ∀ kk, fn_Mo_goes_312 kk (F + 1 + (r + 1)) (Int32.ofNat y) (Int32.ofNat j) S = fn_Mo_goes_312 kk (F + 1 + r) (Int32.ofNat y) (Int32.ofNat (j + 1)) (wd_i S 158 (16 * E + j) (S.1 157 (vl + j))) := fun kk => by
      show fn_Mo_goes_312 kk (F + 1 + r + 1) (Int32.ofNat y) (Int32.ofNat j) S = _
      rw [fn_Mo_goes_312, if_neg (ms_in hy2 (by decide)), im_t (show y < 2147483648 by omega), h145, if_pos ((im_lt (by omega) (by omega)).mpr (by omega)), h44, e1, if_neg (ms_in (show vl + j < 4000 by omega) (by decide)), h46, e2, if_neg (ms_in (show 16 * E + j < 2640 by omega) (by decide)), im_t (show vl + j < 2147483648 by omega), im_t (show 16 * E + j < 2147483648 by omega), im_s]
      simp only [wd_b]
    generalize hS2 : wd_i S 158 (16 * E + j) (S.1 157 (vl + j)) = S2 at hst
    have o2 : of_f (fun a b => a = 158 ∧ b = 16 * E + j) S S2 := by rw [← hS2]; exact of_i ⟨rfl, rfl⟩ of_refl
    have hRt : Rt ≠ 158 := by rcases hy with h | h <;> omega
    obtain ⟨S3, f3, c3, k3, t1, t2, t3, o3⟩ := ih (j + 1) F S2 (by omega) (by rw [o2.1 135 35 (by omega)]; exact h35) hk (by rw [o2.1 135 44 (by omega)]; exact h44) (by rw [o2.1 135 46 (by omega)]; exact h46) (by rw [o2.1 145 y (by omega)]; exact h145) (by rw [o2.1 146 y (by omega)]; exact h146) (by rw [o2.1 Rt n (by omega)]; exact hR) (fun i hi => by
      by_cases c : i = j
      · rw [c, ← hS2, fr_eq, fr_ne (by omega)]
      · rw [o2.1 158 _ (by omega), o2.1 157 _ (by omega)]
        exact hc i (by omega))
    exact ⟨S3, fun kk => by rw [hst, f3], fun i hi => by rw [c3 i hi, o2.1 157 _ (by omega)], k3, t1, t2, t3, of_trans (of_mono (fun a b z => by omega) o2) o3⟩
theorem gt_enter (hy : mg_r y Rt R2) (ha : a ≤ 4) (hv : vl + a ≤ 4000) (hn : n < R2) (h : mv_h lim D s m E (vl + a) (k + 1) S) (hk : k + 2 ≤ 4000) (hE : E ≤ 160) (h1 : S.1 152 k = 8) (h2 : S.1 153 k = Int32.ofNat y) (h145 : S.1 145 y = Int32.ofNat a) (h146 : S.1 146 y = Int32.ofNat n) (hR : S.1 Rt n = root) : ∃ S', gq_go 1 S S' ∧ mv_h lim D s m (E + 1) vl (k + 2) S' ∧ (∀ i, i < a → S'.1 158 (16 * (E + 1) + i) = S.1 157 (vl + i)) ∧ S'.1 152 k = 9 ∧ S'.1 152 (k + 1) = 1 ∧ S'.1 153 (k + 1) = root ∧ of_f (fun a' b => (a' = 135 ∧ (b = 35 ∨ b = 44 ∨ b = 46)) ∨ ((a' = 152 ∨ a' = 153) ∧ k ≤ b) ∨ (a' = 158 ∧ 16 * (E + 1) ≤ b)) S S' := by
  have hy2 : y < 15010 := by rcases hy with h | h <;> omega
  have hRt : Rt = 140 ∨ Rt = 162 := by rcases hy with h | h <;> omega
  have es : Int32.ofNat (vl + a) - Int32.ofNat a = Int32.ofNat vl := by
    rw [Int32.ofNat_add, Int32.add_sub_cancel]
  generalize hS1 : wd_i (wd_i (wd_i S 135 35 (Int32.ofNat k)) 135 46 (Int32.ofNat (E + 1))) 135 44 (Int32.ofNat vl) = S1
  have o1 : of_f (fun a b => a = 135 ∧ (b = 35 ∨ b = 44 ∨ b = 46)) S S1 := by rw [← hS1]; exact of_i (by omega) (of_i (by omega) (of_i (by omega) of_refl))
  have v44 : S1.1 135 44 = Int32.ofNat vl := by rw [← hS1, fr_eq]
  have v46 : S1.1 135 46 = Int32.ofNat (E + 1) := by rw [← hS1, fr_ne (by omega), fr_eq]
  have v35 : S1.1 135 35 = Int32.ofNat k := by rw [← hS1, fr_ne (by omega), fr_ne (by omega), fr_eq]
  obtain ⟨S2, f2, c2, k2, t1, t2, t3, o2⟩ := gt_312 (E := E + 1) (k := k) (root := root) hy ha hv (by omega) hn a 0 (wd_F - a - 1) S1 (by omega) v35 hk v44 v46 (by rw [o1.1 145 y (by omega)]; exact h145) (by rw [o1.1 146 y (by omega)]; exact h146) (by rw [o1.1 Rt n (by omega)]; exact hR) (fun i hi => absurd hi (Nat.not_lt_zero _))
  rw [show wd_F - a - 1 + 1 + a = wd_F by rw [show wd_F = 1000000 from rfl]; omega] at f2
  have f2 : ∀ kk, fn_Mo_goes_312 kk wd_F (Int32.ofNat y) 0 S1 = kk S2 := f2
  refine ⟨S2, fun F => ?_, ?_, fun i hi => by rw [c2 i hi, o1.1 157 _ (by omega)], t1, t2, t3, of_trans (of_mono (fun a b z => by omega) o1) (of_mono (fun a b z => by omega) o2)⟩
  · rw [gq_pop h (by omega), if_neg (by rw [h1]; decide), if_neg (by rw [h1]; decide), if_neg (by rw [h1]; decide), if_neg (by rw [h1]; decide), if_neg (by rw [h1]; decide), if_neg (by rw [h1]; decide), if_neg (by rw [h1]; decide), if_pos h1, h2, if_neg (ms_in hy2 (by decide)), im_t (show y < 2147483648 by omega), h145, es, hS1, f2]
  · obtain ⟨a1, a2, a3, a4, a5, a6, a7, a8, a9, a10, a11, a12, a13⟩ := h
    have e : ∀ b, b ≠ 35 → b ≠ 44 → b ≠ 46 → S2.1 135 b = S.1 135 b := fun b z1 z2 z3 => by rw [o2.1 135 b (by omega), o1.1 135 b (by omega)]
    exact ⟨k2, by rw [o2.1 135 44 (by omega)]; exact v44, by rw [o2.1 135 46 (by omega)]; exact v46, (e 48 (by decide) (by decide) (by decide)).trans a4, (e 49 (by decide) (by decide) (by decide)).trans a5, (e 50 (by decide) (by decide) (by decide)).trans a6, (e 51 (by decide) (by decide) (by decide)).trans a7, (e 52 (by decide) (by decide) (by decide)).trans a8, a9, a10, a11, a12, by omega⟩
/-- WORK: the run ends, or an EXPRESSION is begun and its way back is laid -/
theorem gt_work (h : mv_h lim D s m E vl (k + 1) S) (hk : k < 4000) (h1 : S.1 152 k = 1) (h2 : S.1 153 k = Int32.ofNat y) : (lim ≤ s → ∃ S', gq_go 1 S S' ∧ S'.1 135 52 = 2 ∧ S'.1 135 48 = Int32.ofNat s ∧ S'.1 135 51 = Int32.ofNat m ∧ of_f (fun a b => a = 135 ∧ (b = 35 ∨ b = 52)) S S') ∧ (¬lim ≤ s → D = 160 → ∃ S', gq_go 1 S S' ∧ S'.1 135 52 = 3 ∧ S'.1 135 48 = Int32.ofNat s ∧ S'.1 135 51 = Int32.ofNat m ∧ of_f (fun a b => a = 135 ∧ (b = 35 ∨ b = 52)) S S') ∧ (¬lim ≤ s → ¬D = 160 → ∃ S1, (∀ S', fn_Mo_work_85 (Int32.ofNat y) (Int32.ofNat (max m (D + 1))) S1 = some S' → gq_go 1 S S') ∧ mv_h lim (D + 1) (s + 1) m E vl k S1 ∧ of_f (fun a b => a = 135 ∧ (b = 35 ∨ b = 48 ∨ b = 50 ∨ b = 52)) S S1) := by
  have hp := gq_pop h hk
  obtain ⟨a1, a2, a3, a4, a5, a6, a7, a8, a9, a10, a11, a12, a13⟩ := h
  generalize hS0 : wd_i S 135 35 (Int32.ofNat k) = S0 at hp
  have o0 : of_f (fun a b => a = 135 ∧ b = 35) S S0 := by rw [← hS0]; exact of_i ⟨rfl, rfl⟩ of_refl
  have hp : ∀ F, fn_Mo_goes_46 (F + 1) S = wd_d (fn_Mo_work (Int32.ofNat y) S0) (fn_Mo_goes_46 F) := fun F => by rw [hp F, if_pos h1, h2]
  have e48 : S0.1 135 48 = Int32.ofNat s := by rw [o0.1 135 48 (by omega)]; exact a4
  have e49 : S0.1 135 49 = Int32.ofNat lim := by rw [o0.1 135 49 (by omega)]; exact a5
  have e50 : S0.1 135 50 = Int32.ofNat D := by rw [o0.1 135 50 (by omega)]; exact a6
  have e51 : S0.1 135 51 = Int32.ofNat m := by rw [o0.1 135 51 (by omega)]; exact a7
  have hend : ∀ c : Int32, ¬c = 0 → fn_Mo_work_31 (Int32.ofNat y) c S0 = some (wd_i S0 135 52 c) := fun c hc => by
    unfold fn_Mo_work_31
    simp only [wd_b]
    rw [fr_eq, if_neg hc]
  have hres : ∀ c : Int32, ¬c = 0 → fn_Mo_work (Int32.ofNat y) S0 = fn_Mo_work_31 (Int32.ofNat y) c S0 → ∃ S', gq_go 1 S S' ∧ S'.1 135 52 = c ∧ S'.1 135 48 = Int32.ofNat s ∧ S'.1 135 51 = Int32.ofNat m ∧ of_f (fun a b => a = 135 ∧ (b = 35 ∨ b = 52)) S S' := fun c hc hw => ⟨wd_i S0 135 52 c, fun F => by rw [hp, hw, hend c hc, wd_d_s], fr_eq, by rw [fr_ne (by omega)]; exact e48, by rw [fr_ne (by omega)]; exact e51, of_i (by omega) (of_mono (fun a b z => by omega) o0)⟩
  refine ⟨fun q1 => hres 2 (by decide) ?_, fun q1 q2 => hres 3 (by decide) ?_, fun q1 q2 => ?_⟩
  · unfold fn_Mo_work
    rw [e48, e49, if_pos (by rw [show s = lim by omega])]
  · unfold fn_Mo_work
    rw [e48, e49, if_neg (fun z => q1 (by have := (im_eq (by omega) (by omega)).mp z; omega)), e50, q2, if_pos (show Int32.ofNat 160 = 160 from rfl)]
  · generalize hS1 : wd_i (wd_i (wd_i S0 135 52 0) 135 48 (Int32.ofNat (s + 1))) 135 50 (Int32.ofNat (D + 1)) = S1
    have o1 : of_f (fun a b => a = 135 ∧ (b = 48 ∨ b = 50 ∨ b = 52)) S0 S1 := by rw [← hS1]; exact of_i (by omega) (of_i (by omega) (of_i (by omega) of_refl))
    have O1 : of_f (fun a b => a = 135 ∧ (b = 35 ∨ b = 48 ∨ b = 50 ∨ b = 52)) S S1 := of_trans (of_mono (fun a b z => by omega) o0) (of_mono (fun a b z => by omega) o1)
    have v50 : S1.1 135 50 = Int32.ofNat (D + 1) := by rw [← hS1, fr_eq]
    have v51 : S1.1 135 51 = Int32.ofNat m := by rw [o1.1 135 51 (by omega)]; exact e51
    have e : ∀ b, b ≠ 35 → b ≠ 48 → b ≠ 50 → b ≠ 52 → S1.1 135 b = S.1 135 b := fun b z1 z2 z3 z4 => O1.1 135 b (by omega)
    refine ⟨S1, fun S' hS' F => ?_, ⟨by rw [o1.1 135 35 (by omega), ← hS0, fr_eq], (e 44 (by decide) (by decide) (by decide) (by decide)).trans a2, (e 46 (by decide) (by decide) (by decide) (by decide)).trans a3, by rw [← hS1, fr_ne (by omega), fr_eq], (e 49 (by decide) (by decide) (by decide) (by decide)).trans a5, v50, v51, by rw [← hS1, fr_ne (by omega), fr_ne (by omega), fr_eq], a9, by omega, by omega, a12, a13⟩, O1⟩
    have hw : fn_Mo_work (Int32.ofNat y) S0 = fn_Mo_work_85 (Int32.ofNat y) (Int32.ofNat (max m (D + 1))) S1 := by
      unfold fn_Mo_work
      rw [e48, e49, if_neg (fun z => q1 (by have := (im_eq (by omega) (by omega)).mp z; omega)), e50, if_neg (show ¬Int32.ofNat D = 160 from fun z => q2 ((im_eq (m := D) (n := 160) (by omega) (by omega)).mp z))]
      unfold fn_Mo_work_31
      simp only [wd_b]
      have x48 : (wd_i S0 135 52 0).1 135 48 = Int32.ofNat s := by rw [fr_ne (by omega)]; exact e48
      have x50 : (wd_i (wd_i S0 135 52 0) 135 48 (Int32.ofNat (s + 1))).1 135 50 = Int32.ofNat D := by rw [fr_ne (by omega), fr_ne (by omega)]; exact e50
      rw [fr_eq, if_pos rfl, x48, im_s, x50, im_s, hS1, v50, v51]
      by_cases c : m < D + 1
      · rw [if_pos ((im_lt (by omega) (by omega)).mpr c), show max m (D + 1) = D + 1 by omega]
      · rw [if_neg (fun q => c ((im_lt (by omega) (by omega)).mp q)), show max m (D + 1) = m by omega]
    rw [hp, hw, hS', wd_d_s]
end Mg3
end
