/-! The reference's runner: its state, its tasks. -/
def mv_h (lim D s m E vl k : Nat) (S : wd_S) : Prop := S.1 135 35 = Int32.ofNat k ∧ S.1 135 44 = Int32.ofNat vl ∧ S.1 135 46 = Int32.ofNat E ∧ S.1 135 48 = Int32.ofNat s ∧ S.1 135 49 = Int32.ofNat lim ∧ S.1 135 50 = Int32.ofNat D ∧ S.1 135 51 = Int32.ofNat m ∧ S.1 135 52 = 0 ∧ lim ≤ 20000 ∧ s ≤ lim ∧ D ≤ 160 ∧ m ≤ 160 ∧ E ≤ 161
def me_e (E : Nat) (V : ev_V) (S : wd_S) : Prop := ∀ s v, V s = some v → s < 16 ∧ S.1 158 (16 * E + s) = v
def mgW (k vl E a b : Nat) : Prop := (a = 135 ∧ (b = 35 ∨ b = 44 ∨ b = 46 ∨ b = 47 ∨ b = 48 ∨ b = 50 ∨ b = 51 ∨ b = 52)) ∨ ((a = 152 ∨ a = 153) ∧ k ≤ b) ∨ (a = 157 ∧ vl ≤ b) ∨ (a = 158 ∧ 16 * E ≤ b)
def gq_go (g : Nat) (S S' : wd_S) : Prop := ∀ F, fn_Mo_goes_46 (F + g) S = fn_Mo_goes_46 F S'
def mg_O (lim D E vl k : Nat) (W : Nat → Nat → Prop) (s0 a : Nat) (x : Except ev_E ev_O) (S : wd_S) : Prop := match x with
  | .error none => True
  | .error (some e) => ∃ g S', gq_go g S S' ∧ g + 8 * s0 ≤ 8 * e.2.1 + a + 1 ∧ e.2.1 ≤ lim ∧ ¬e.1 = 0 ∧ S'.1 135 52 = e.1 ∧ S'.1 135 48 = Int32.ofNat e.2.1 ∧ S'.1 135 51 = Int32.ofNat e.2.2 ∧ of_f W S S'
  | .ok q => ∃ g S', gq_go g S S' ∧ g + 8 * s0 ≤ 8 * q.2.2.1 + a ∧ mv_h lim D q.2.2.1 q.2.2.2 E vl k S' ∧ S'.1 135 47 = q.1 ∧ me_e E q.2.1 S' ∧ of_f W S S'
section Mg
variable {lim D s m E vl k s0 a D' E' vl' k' a' y n : Nat} {P : List tr_T} {S S' S1 S2 : wd_S} {V V' : ev_V} {t : tr_T} {v x τ : Int32} {W W1 W2 : Nat → Nat → Prop}
theorem gq_t {g g' : Nat} (h1 : gq_go g S S1) (h2 : gq_go g' S1 S2) : gq_go (g + g') S S2 := fun F => by
  rw [show F + (g + g') = (F + g') + g by omega, h1, h2]
theorem mgW_le (h1 : k ≤ k') (h2 : vl ≤ vl') (h3 : E ≤ E') : ∀ a b, mgW k' vl' E' a b → mgW k vl E a b := by
  rintro a b (h | h | h | h)
  · exact Or.inl h
  · exact Or.inr (Or.inl ⟨h.1, by omega⟩)
  · exact Or.inr (Or.inr (Or.inl ⟨h.1, by omega⟩))
  · exact Or.inr (Or.inr (Or.inr ⟨h.1, by omega⟩))
theorem mg_step {x : Except ev_E ev_O} (h1 : gq_go 1 S S1) (o1 : of_f W S S1) (h2 : mg_O lim D E vl k W2 s0 a x S1) (w2 : ∀ a b, W2 a b → W a b) : mg_O lim D E vl k W s0 (a + 1) x S := by
  unfold mg_O at h2 ⊢
  split at h2
  · trivial
  · obtain ⟨g, S', k1, k2, k3, k4, k5, k6, k7, k8⟩ := h2
    exact ⟨1 + g, S', gq_t h1 k1, by omega, k3, k4, k5, k6, k7, of_trans o1 (of_mono w2 k8)⟩
  · obtain ⟨g, S', k1, k2, k3, k4, k5, k6⟩ := h2
    exact ⟨1 + g, S', gq_t h1 k1, by omega, k3, k4, k5, of_trans o1 (of_mono w2 k6)⟩
theorem mg_bind {x : Except ev_E ev_O} {f : ev_O → Except ev_E ev_O} (h : mg_O lim D E vl k W1 s0 0 x S) (hf : ∀ (q : ev_O) (S' : wd_S), mv_h lim D q.2.2.1 q.2.2.2 E vl k S' → S'.1 135 47 = q.1 → me_e E q.2.1 S' → of_f W1 S S' → mg_O lim D' E' vl' k' W2 q.2.2.1 a (f q) S') (w1 : ∀ a b, W1 a b → W a b) (w2 : ∀ a b, W2 a b → W a b) : mg_O lim D' E' vl' k' W s0 a (ev_b x f) S := by
  cases x with
  | error e =>
    cases e with
    | none => trivial
    | some e =>
      obtain ⟨g, S', k1, k2, k3, k4, k5, k6, k7, k8⟩ := h
      exact ⟨g, S', k1, by omega, k3, k4, k5, k6, k7, of_mono w1 k8⟩
  | ok q =>
    obtain ⟨g, S', k1, k2, k3, k4, k5, k6⟩ := h
    have hq := hf q S' k3 k4 k5 k6
    show mg_O lim D' E' vl' k' W s0 a (f q) S
    unfold mg_O at hq ⊢
    split at hq
    · trivial
    · obtain ⟨g', S'', l1, l2, l3, l4, l5, l6, l7, l8⟩ := hq
      exact ⟨g + g', S'', gq_t k1 l1, by omega, l3, l4, l5, l6, l7, of_trans (of_mono w1 k6) (of_mono w2 l8)⟩
    · obtain ⟨g', S'', l1, l2, l3, l4, l5, l6⟩ := hq
      exact ⟨g + g', S'', gq_t k1 l1, by omega, l3, l4, l5, of_trans (of_mono w1 k6) (of_mono w2 l6)⟩
/-- a task is taken up -/
theorem gq_pop (h : mv_h lim D s m E vl (k + 1) S) (hk : k < 4000) (F : Nat) : fn_Mo_goes_46 (F + 1) S = (if S.1 152 k = 1 then wd_d (fn_Mo_work (S.1 153 k) (wd_i S 135 35 (Int32.ofNat k))) (fn_Mo_goes_46 F) else if S.1 152 k = 2 then fn_Mo_goes_46 F (wd_i (wd_i S 135 35 (Int32.ofNat k)) 135 50 (Int32.ofNat D - 1)) else if S.1 152 k = 3 then fn_Mo_goes_46 F (wd_i (wd_i S 135 35 (Int32.ofNat k)) 135 46 (Int32.ofNat E - 1)) else if S.1 152 k = 4 then (if Int32.ofNat vl < 0 ∨ 4000 ≤ (Int32.ofNat vl).toNatClampNeg then none else fn_Mo_goes_46 F (wd_i (wd_i (wd_i S 135 35 (Int32.ofNat k)) 157 (Int32.ofNat vl).toNatClampNeg (S.1 135 47)) 135 44 (Int32.ofNat (vl + 1)))) else if S.1 152 k = 5 then (if Int32.ofNat vl - 1 < 0 ∨ 4000 ≤ (Int32.ofNat vl - 1).toNatClampNeg then none else wd_c (fn_Mo_applied (S.1 153 k) (S.1 157 (Int32.ofNat vl - 1).toNatClampNeg) (S.1 135 47) (wd_i (wd_i S 135 35 (Int32.ofNat k)) 135 44 (Int32.ofNat vl - 1))) fun x S => fn_Mo_goes_46 F (wd_i S 135 47 x)) else if S.1 152 k = 6 then (if S.1 135 47 = 0 then (if S.1 153 k < 0 ∨ 15010 ≤ (S.1 153 k).toNatClampNeg then none else wd_d (fn_Mo_push 1 (S.1 146 (S.1 153 k).toNatClampNeg) (wd_i S 135 35 (Int32.ofNat k))) (fn_Mo_goes_46 F)) else (if S.1 153 k < 0 ∨ 15010 ≤ (S.1 153 k).toNatClampNeg then none else wd_d (fn_Mo_push 1 (S.1 145 (S.1 153 k).toNatClampNeg) (wd_i S 135 35 (Int32.ofNat k))) (fn_Mo_goes_46 F))) else if S.1 152 k = 7 then (if S.1 153 k < 0 ∨ 15010 ≤ (S.1 153 k).toNatClampNeg then none else if 16 * Int32.ofNat E + S.1 146 (S.1 153 k).toNatClampNeg < 0 ∨ 2640 ≤ (16 * Int32.ofNat E + S.1 146 (S.1 153 k).toNatClampNeg).toNatClampNeg then none else if S.1 153 k < 0 ∨ 15010 ≤ (S.1 153 k).toNatClampNeg then none else wd_d (fn_Mo_push 1 (S.1 145 (S.1 153 k).toNatClampNeg) (wd_i (wd_i S 135 35 (Int32.ofNat k)) 158 (16 * Int32.ofNat E + S.1 146 (S.1 153 k).toNatClampNeg).toNatClampNeg (S.1 135 47))) (fn_Mo_goes_46 F)) else if S.1 152 k = 8 then (if S.1 153 k < 0 ∨ 15010 ≤ (S.1 153 k).toNatClampNeg then none else fn_Mo_goes_312 (fn_Mo_goes_46 F) wd_F (S.1 153 k) 0 (wd_i (wd_i (wd_i S 135 35 (Int32.ofNat k)) 135 46 (Int32.ofNat (E + 1))) 135 44 (Int32.ofNat vl - S.1 145 (S.1 153 k).toNatClampNeg))) else fn_Mo_goes_46 F (wd_i (wd_i S 135 35 (Int32.ofNat k)) 135 46 (Int32.ofNat E - 1))) := by
  obtain ⟨a1, a2, a3, a4, a5, a6, a7, a8, -⟩ := h
  rw [fn_Mo_goes_46, a1, if_pos (show (0 : Int32) < Int32.ofNat (k + 1) from (im_lt (m := 0) (n := k + 1) (by omega) (by omega)).mpr (by omega)), if_pos a8]
  unfold fn_Mo_goes_413 fn_Mo_goes_241 fn_Mo_goes_413
  simp only [wd_b]
  have hk1 := im_p k
  generalize hS15 : wd_i S 135 35 (Int32.ofNat k) = S15
  have o1 : of_f (fun a b => a = 135 ∧ b = 35) S S15 := by rw [← hS15]; exact of_i ⟨rfl, rfl⟩ of_refl
  have e35 : S15.1 135 35 = Int32.ofNat k := by rw [← hS15, fr_eq]
  have e44 : S15.1 135 44 = Int32.ofNat vl := by rw [o1.1 135 44 (by omega)]; exact a2
  have e46 : S15.1 135 46 = Int32.ofNat E := by rw [o1.1 135 46 (by omega)]; exact a3
  have e47 : S15.1 135 47 = S.1 135 47 := o1.1 135 47 (by omega)
  have e50 : S15.1 135 50 = Int32.ofNat D := by rw [o1.1 135 50 (by omega)]; exact a6
  have et : ∀ b, S15.1 152 b = S.1 152 b ∧ S15.1 153 b = S.1 153 b ∧ S15.1 145 b = S.1 145 b ∧ S15.1 146 b = S.1 146 b ∧ S15.1 157 b = S.1 157 b := fun b => ⟨o1.1 _ _ (by omega), o1.1 _ _ (by omega), o1.1 _ _ (by omega), o1.1 _ _ (by omega), o1.1 _ _ (by omega)⟩
  have hS15' : wd_i S 135 35 (Int32.ofNat (k + 1) - 1) = S15 := by rw [hk1]; exact hS15
  rw [hS15', e35, if_neg (ms_in hk (by decide)), if_neg (ms_in hk (by decide)), im_t (show k < 2147483648 by omega), (et k).1, (et k).2.1, e50, e46, e44, e47]
  simp only [(et _).2.2.1, (et _).2.2.2.1]
  have f44 : ∀ x v, (wd_i S15 157 x v).1 135 44 = Int32.ofNat vl := fun x v => by rw [fr_ne (by omega)]; exact e44
  have f44' : (wd_i S15 135 44 (Int32.ofNat vl - 1)).1 135 44 = Int32.ofNat vl - 1 := fr_eq
  have f157 : ∀ x, (wd_i S15 135 44 x).1 157 = S15.1 157 := fun x => fr_row _ (by decide)
  have f47 : ∀ x, (wd_i S15 135 44 x).1 135 47 = S.1 135 47 := fun x => by rw [fr_ne (by omega)]; exact e47
  have f145 : ∀ x v, (wd_i S15 158 x v).1 145 = S15.1 145 := fun x v => fr_row _ (by decide)
  have f44'' : ∀ x, (wd_i S15 135 46 x).1 135 44 = Int32.ofNat vl := fun x => by rw [fr_ne (by omega)]; exact e44
  have f145' : ∀ x, (wd_i S15 135 46 x).1 145 = S15.1 145 := fun x => fr_row _ (by decide)
  have q157 : S15.1 157 = S.1 157 := funext fun b => (et b).2.2.2.2
  have q145 : S15.1 145 = S.1 145 := funext fun b => (et b).2.2.1
  rw [f44, f44', f157, f47, f44'', f145', q157, q145, im_s, im_s]
  simp only [f145, q145]
end Mg
