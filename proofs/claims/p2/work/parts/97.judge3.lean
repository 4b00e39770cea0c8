/-! The reference's judge: a call; a whole tree. -/
section Jc
variable {T : Nat → Int32} {n f B k y lo hi : Nat} {S S' S1 : wd_S} {fs : List ps_F} {sc : List (Int64 × Nat)} {e : ps_E}
theorem jn_332 {g a : Nat} {l3 : Int32} (hy : y < 15010) (hg : g + a ≤ 15010) (hk : k + a < 4000) (h35 : S.1 135 35 = Int32.ofNat k) (h144 : S.1 144 y = Int32.ofNat g) (h145 : S.1 145 y = Int32.ofNat a) : ∃ S', fn_Mo_onJudge_332 (Int32.ofNat y) l3 S = some S' ∧ S'.1 146 y = l3 ∧ S'.1 135 35 = Int32.ofNat (k + a) ∧ (∀ j, j < a → S'.1 152 (k + j) = 1 ∧ S'.1 153 (k + j) = S.1 149 (g + (a - 1 - j))) ∧ of_f (fun a' b => (a' = 135 ∧ b = 35) ∨ (a' = 146 ∧ b = y) ∨ (a' = 152 ∧ k ≤ b) ∨ (a' = 153 ∧ k ≤ b)) S S' := by
  have hin := ms_in hy (show 15010 < 2147483648 by decide)
  unfold fn_Mo_onJudge_332
  simp only [wd_b]
  rw [if_neg hin, if_neg hin, im_t (show y < 2147483648 by omega), fr_ne (show ¬(145 = 146 ∧ y = y) by omega), h145]
  obtain ⟨S2, f2, e2, c2, o2⟩ := jn_349 (S := S) (a := a) hy hg h144 a wd_F (wd_i S 146 y l3) k (Nat.le_refl _) (by rw [show wd_F = 1000000 from rfl]; omega) hk (by rw [fr_ne (by omega)]; exact h35) (by rw [fr_ne (by omega)]; exact h144) (fun b => fr_ne (by omega))
  rw [f2]
  refine ⟨S2, rfl, ?_, e2, c2, of_trans (of_i (by omega) of_refl) (of_mono (fun a' b z => by omega) o2)⟩
  rw [o2.1 146 y (by omega), fr_eq]
theorem jn_call (h : jh_g f B fs sc k S) (hy : y < 15010) (h143 : S.1 143 y = 8) {o p g a : Nat} {V : Nat → Int64} (h148 : S.2.1 148 y = V o) (h147 : S.1 147 y = Int32.ofNat p) (h144 : S.1 144 y = Int32.ofNat g) (h145 : S.1 145 y = Int32.ofNat a) (hg : g + a ≤ 15010) (hk : k + a < 4000) : ∃ S', fn_Mo_onJudge (Int32.ofNat y) S = some S' ∧ of_f (fun a' b => (a' = 135 ∧ (b = 9 ∨ b = 10 ∨ b = 35)) ∨ (a' = 146 ∧ b = y) ∨ (a' = 152 ∧ k ≤ b) ∨ (a' = 153 ∧ k ≤ b)) S S' ∧ match ps_bad V fs (o, a + 1) with
    | some e => e.2 = o ∧ ¬e.1 = 0 ∧ S'.1 135 9 = e.1 ∧ S'.1 135 10 = Int32.ofNat p
    | none => S'.1 135 10 = S.1 135 10 ∧ S'.1 135 9 = 0 ∧ S'.1 135 35 = Int32.ofNat (k + a) ∧ (∀ j, j < a → S'.1 152 (k + j) = 1 ∧ S'.1 153 (k + j) = S.1 149 (g + (a - 1 - j))) ∧ ∃ j, ps_ix (V o) fs 0 none = some j ∧ j < 48 ∧ S'.1 146 y = Int32.ofNat (48 * B + j) ∧ a ≤ 4 := by
  have h0 := h
  obtain ⟨a1, a2, a3, a4, a5, a6, a7, a8, a9, a10, a11, a12⟩ := h
  have hin := ms_in hy (show 15010 < 2147483648 by decide)
  have e48 : (48 : Int32) * Int32.ofNat B = Int32.ofNat (48 * B + 0) := by
    rw [show (48 : Int32) = Int32.ofNat 48 from rfl, ← Int32.ofNat_mul]
    rfl
  have es : (48 : Int32) * Int32.ofNat B + Int32.ofNat fs.length = Int32.ofNat (48 * B + fs.length) := by
    rw [show (48 : Int32) = Int32.ofNat 48 from rfl, ← Int32.ofNat_mul, ← Int32.ofNat_add]
  unfold fn_Mo_onJudge
  rw [if_neg hin, im_t (show y < 2147483648 by omega), h143, if_neg (by decide), if_neg (by decide), if_neg (by decide), if_neg (by decide), if_neg (by decide), if_neg (by decide), if_neg (by decide), if_pos rfl, a9, e48]
  obtain ⟨F, hF⟩ : ∃ F, wd_F = F + 1 + fs.length := ⟨wd_F - fs.length - 1, by rw [show wd_F = 1000000 from rfl]; omega⟩
  have e := jn_245 h0 hy h148 fs 0 F none (Nat.zero_add _) (fun q h1 h2 => by simp only [Nat.zero_add])
  rw [hF]
  show ∃ S', fn_Mo_onJudge_245 (F + 1 + fs.length) (Int32.ofNat y) (jn_cv B none) (Int32.ofNat (48 * B + 0)) S = some S' ∧ _
  rw [e, fn_Mo_onJudge_245, a9, a10, es, if_neg (fun z => by have := (im_lt (by omega) (by omega)).mp z; omega)]
  have hbad : ∀ (x : Int32), ¬x = 0 → ∃ S', fn_Mo_onJudge_323 (Int32.ofNat y) (jn_cv B (ps_ix (V o) fs 0 none)) x S = some S' ∧ of_f (fun a' b => (a' = 135 ∧ (b = 9 ∨ b = 10 ∨ b = 35)) ∨ (a' = 146 ∧ b = y) ∨ (a' = 152 ∧ k ≤ b) ∨ (a' = 153 ∧ k ≤ b)) S S' ∧ S'.1 135 9 = x ∧ S'.1 135 10 = Int32.ofNat p := by
    intro x hx
    unfold fn_Mo_onJudge_323
    rw [if_neg hin, im_t (show y < 2147483648 by omega), h147, mo_stop, if_pos a1, wd_d_s]
    have o1 : of_f (fun a' b => a' = 135 ∧ (b = 9 ∨ b = 10)) S (wd_i (wd_i S 135 9 x) 135 10 (Int32.ofNat p)) := of_i (by omega) (of_i (by omega) of_refl)
    obtain ⟨S2, f2, -, -, -, o2⟩ := jn_332 (S := wd_i (wd_i S 135 9 x) 135 10 (Int32.ofNat p)) (l3 := jn_cv B (ps_ix (V o) fs 0 none)) hy hg hk (by rw [o1.1 135 35 (by omega)]; exact a4) (by rw [o1.1 144 y (by omega)]; exact h144) (by rw [o1.1 145 y (by omega)]; exact h145)
    refine ⟨S2, f2, of_trans (of_mono (fun a b z => by omega) o1) (of_mono (fun a b z => by omega) o2), ?_, ?_⟩
    · rw [o2.1 135 9 (by omega), fr_ne (by omega), fr_eq]
    · rw [o2.1 135 10 (by omega), fr_eq]
  have hb0 : ps_bad V fs (o, a + 1) = match ps_ix (V o) fs 0 none with
    | none => some ((4, o) : ps_E)
    | some f => if (fs.getD f ps_d).2.1 = a then none else some (5, o) := rfl
  cases hq : ps_ix (V o) fs 0 none with
  | none =>
    obtain ⟨S2, f2, o2, b2, b3⟩ := hbad 4 (by decide)
    rw [hq] at f2
    rw [if_pos (show jn_cv B none = -1 from rfl)]
    unfold fn_Mo_onJudge_312
    rw [if_pos (show jn_cv B none = -1 from rfl)]
    rw [hq] at hb0
    rw [hb0]
    exact ⟨S2, f2, o2, rfl, (show ¬(4 : Int32) = 0 by decide), b2, b3⟩
  | some j =>
    have hj : j < 0 + fs.length := jn_ix_lt fs 0 none (fun g hg => by cases hg) j hq
    have hj : j < fs.length := by omega
    have hne : ¬jn_cv B (some j) = -1 := fun z => by
      have z : Int32.ofNat (48 * B + j) = -1 := z
      have := congrArg Int32.toInt z
      rw [im_i (by omega)] at this
      exact absurd this (by show ¬(((48 * B + j : Nat)) : Int) = -1; omega)
    rw [if_neg hne]
    show ∃ S', (if Int32.ofNat (48 * B + j) < 0 ∨ 96 ≤ (Int32.ofNat (48 * B + j)).toNatClampNeg then none else _) = some S' ∧ _
    rw [if_neg (ms_in (show 48 * B + j < 96 by omega) (by decide)), if_neg hin, im_t (show y < 2147483648 by omega)]
    show ∃ S', (if S.1 138 (Int32.ofNat (48 * B + j)).toNatClampNeg = S.1 145 y then _ else _) = some S' ∧ _
    rw [im_t (show 48 * B + j < 2147483648 by omega), (a12 j hj).2.1, h145]
    have h4 := (a12 j hj).2.2
    have ed : (fs.getD j ps_d).2.1 = fs[j].2.1 := by
      rw [List.getD_eq_getElem?_getD, List.getElem?_eq_getElem hj]
      rfl
    rw [hq] at hb0
    have hb0 : ps_bad V fs (o, a + 1) = if (fs.getD j ps_d).2.1 = a then none else some ((5, o) : ps_E) := hb0
    by_cases he : fs[j].2.1 = a
    · rw [if_pos (by rw [he]), hb0, ed, if_pos he]
      obtain ⟨S2, f2, b1, b2, b3, o2⟩ := jn_332 (S := S) (l3 := jn_cv B (some j)) hy hg hk a4 h144 h145
      refine ⟨S2, f2, of_mono (fun a b z => by omega) o2, o2.1 135 10 (by omega), by rw [o2.1 135 9 (by omega)]; exact a1, b2, b3, j, rfl, by omega, b1, by omega⟩
    · rw [if_neg (fun z => he ((im_eq (by omega) (by omega)).mp z)), hb0, ed, if_neg he]
      obtain ⟨S2, f2, o2, b2, b3⟩ := hbad 5 (by decide)
      rw [hq] at f2
      unfold fn_Mo_onJudge_312
      rw [if_neg hne]
      exact ⟨S2, f2, o2, rfl, (show ¬(5 : Int32) = 0 by decide), b2, b3⟩
end Jc
