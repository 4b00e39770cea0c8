/-! The reference's judge: runs of its loop one behind the other. -/
def jq (T : Nat → Int32) (n g0 : Nat) (W : Nat → Nat → Prop) (o : Option ps_E) (P : wd_S → Prop) (S : wd_S) : Prop := ∃ g S', jg_go g S S' ∧ g ≤ g0 ∧ of_f W S S' ∧ match o with
  | some e => mt_e T n e S'
  | none => P S' ∧ S'.1 135 10 = S.1 135 10
def ps_or (o o' : Option ps_E) : Option ps_E := match o with
  | some e => some e
  | none => o'
section Jq
variable {T : Nat → Int32} {n f B k y lo hi g0 g1 g2 t b : Nat} {S S' S1 : wd_S} {fs : List ps_F} {sc : List (Int64 × Nat)} {e : ps_E} {W W1 W2 : Nat → Nat → Prop} {o o' : Option ps_E} {P P' : wd_S → Prop} {x z : Int32}
theorem ps_or_n : ps_or o none = o := by cases o <;> rfl
theorem ps_first_b {V : Nat → Int64} (M N : List (Nat × Nat)) : ps_first V fs (M ++ N) = ps_or (ps_first V fs M) (ps_first V fs N) := ps_first_a M N
theorem jq_then (h1 : jq T n g0 W1 o P S) (h2 : ∀ S1, of_f W1 S S1 → P S1 → jq T n g1 W2 o' P' S1) (hg : g0 + g1 ≤ g2) (w1 : ∀ a b, W1 a b → W a b) (w2 : ∀ a b, W2 a b → W a b) : jq T n g2 W (ps_or o o') P' S := by
  obtain ⟨g, S1, a1, a2, a3, a4⟩ := h1
  cases o with
  | some e => exact ⟨g, S1, a1, by omega, of_mono w1 a3, a4⟩
  | none =>
    obtain ⟨a4, a5⟩ := a4
    obtain ⟨g', S2, b1, b2, b3, b4⟩ := h2 S1 a3 a4
    refine ⟨g + g', S2, jg_t a1 b1, by omega, of_trans (of_mono w1 a3) (of_mono w2 b3), ?_⟩
    cases o' with
    | some e => exact b4
    | none => exact ⟨b4.1, b4.2.trans a5⟩
theorem jq_step (h1 : jg_go 1 S S1) (o1 : of_f W S S1) (e1 : S1.1 135 10 = S.1 135 10) (h2 : jq T n g1 W2 o P S1) (hg : 1 + g1 ≤ g2) (w2 : ∀ a b, W2 a b → W a b) : jq T n g2 W o P S := by
  obtain ⟨g, S2, a1, a2, a3, a4⟩ := h2
  refine ⟨1 + g, S2, jg_t h1 a1, by omega, of_trans o1 (of_mono w2 a3), ?_⟩
  cases o with
  | some e => exact a4
  | none => exact ⟨a4.1, a4.2.trans e1⟩
theorem jq_end (h : P S) : jq T n 0 W none P S := ⟨0, S, fun _ => rfl, Nat.le_refl _, of_refl, h, rfl⟩
theorem ms_152 : (ms_p t x z S).1 152 b = if b = t then x else S.1 152 b := by
  unfold ms_p
  rw [fr_ne (by omega), fr_ne (by omega), fr_i1]
  by_cases h : b = t
  · rw [if_pos h, if_pos ⟨rfl, h⟩]
  · rw [if_neg h, if_neg (fun q => h q.2)]
theorem ms_153 : (ms_p t x z S).1 153 b = if b = t then z else S.1 153 b := by
  unfold ms_p
  rw [fr_ne (by omega), fr_i1]
  by_cases h : b = t
  · rw [if_pos h, if_pos ⟨rfl, h⟩]
  · rw [if_neg h, if_neg (fun q => h q.2), fr_ne (by omega)]
theorem ms_35 : (ms_p t x z S).1 135 35 = Int32.ofNat (t + 1) := fr_eq
theorem ms_o : of_f (mw_p t) S (ms_p t x z S) := by
  unfold ms_p
  exact of_i (Or.inr (Or.inr ⟨rfl, rfl⟩)) (of_i (Or.inr (Or.inl ⟨rfl, rfl⟩)) (of_i (Or.inl ⟨rfl, rfl⟩) of_refl))
theorem jg_v {t' : Nat} (h : jh_g f B fs sc k S) (ho : of_f (fun a b => (a = 135 ∧ (b = 9 ∨ b = 10 ∨ b = 35)) ∨ a = 152 ∨ a = 153 ∨ a = 144 ∨ a = 146) S S') (e9 : S'.1 135 9 = 0) (e35 : S'.1 135 35 = Int32.ofNat t') : jh_g f B fs sc t' S' := by
  obtain ⟨a1, a2, a3, a4, a5, a6, a7, a8, a9, a10, a11, a12⟩ := h
  have hne : ∀ b, b ≠ 9 → b ≠ 10 → b ≠ 35 → S'.1 135 b = S.1 135 b := fun b h1 h2 h3 => ho.1 _ _ (by omega)
  refine ⟨e9, (hne 31 (by decide) (by decide) (by decide)).trans a2, a3, e35, (hne 40 (by decide) (by decide) (by decide)).trans a5, a6, js_o sc (fun b _ => ho.1 _ _ (by omega)) (fun b => ho.2.1 _ _ (by omega)) a7, a8, (hne 25 (by decide) (by decide) (by decide)).trans a9, (hne 26 (by decide) (by decide) (by decide)).trans a10, a11, fun j hj => ?_⟩
  rw [ho.1 138 _ (by omega), ho.2.1 137 _ (by omega)]
  exact a12 j hj
theorem jg_jud (h : jh_g f B fs sc (k + 1) S) (hk : k < 4000) (h1 : S.1 152 k = 1) (h2 : S.1 153 k = Int32.ofNat y) (ho : fn_Mo_onJudge (Int32.ofNat y) (wd_i S 135 35 (Int32.ofNat k)) = some S1) : jg_go 1 S S1 := jg_1 (fun F => by rw [jg_pop h hk, if_pos h1, h2]) ho
/-- a name is told -/
theorem jg_tell {s : Nat} {v : Int64} (h : jh_g f B fs sc (k + 1) S) (hk : k < 4000) (h1 : S.1 152 k = 3) (h2 : S.1 153 k = Int32.ofNat y) (hy : y < 15010) (h3 : S.1 146 y = Int32.ofNat s) (hs : s < 16) (h4 : S.2.1 142 (16 * f + s) = v) (hl : sc.length < 16) : ∃ S', jg_go 1 S S' ∧ jh_g f B fs ((v, s) :: sc) k S' ∧ of_f (fun a b => (a = 135 ∧ (b = 35 ∨ b = 40)) ∨ (a = 156 ∧ b = sc.length)) S S' := by
  have e : ∀ F, fn_Mo_judge_62 (F + 1) S = fn_Mo_judge_62 F (wd_i (wd_i (wd_i S 135 35 (Int32.ofNat k)) 156 sc.length (Int32.ofNat s)) 135 40 (Int32.ofNat (sc.length + 1))) := fun F => by
    rw [jg_pop h hk, if_neg (by rw [h1]; decide), if_pos h1, h2, if_neg (ms_in hy (by decide)), if_neg (ms_in hl (by decide)), im_t (show sc.length < 2147483648 by omega), im_t (show y < 2147483648 by omega), h3]
  obtain ⟨a1, a2, a3, a4, a5, a6, a7, a8, a9, a10, a11, a12⟩ := h
  generalize hS : wd_i (wd_i (wd_i S 135 35 (Int32.ofNat k)) 156 sc.length (Int32.ofNat s)) 135 40 (Int32.ofNat (sc.length + 1)) = S2 at e
  have o2 : of_f (fun a b => (a = 135 ∧ (b = 35 ∨ b = 40)) ∨ (a = 156 ∧ b = sc.length)) S S2 := by
    rw [← hS]
    exact of_i (by omega) (of_i (by omega) (of_i (by omega) of_refl))
  have hne : ∀ b, b ≠ 35 → b ≠ 40 → S2.1 135 b = S.1 135 b := fun b h1 h2 => o2.1 _ _ (by omega)
  refine ⟨S2, e, ⟨(hne 9 (by decide) (by decide)).trans a1, (hne 31 (by decide) (by decide)).trans a2, a3, ?_, ?_, hl, ⟨?_, hs, ?_, js_o sc (fun b hb => o2.1 _ _ (by omega)) (fun b => o2.2.1 _ _ (by omega)) a7⟩, a8, (hne 25 (by decide) (by decide)).trans a9, (hne 26 (by decide) (by decide)).trans a10, a11, fun j hj => ?_⟩, o2⟩
  · rw [← hS, fr_ne (by omega), fr_ne (by omega), fr_eq]
  · rw [← hS, fr_eq]; rfl
  · rw [← hS, fr_ne (by omega), fr_eq]
  · rw [o2.2.1 142 _ (by omega)]; exact h4
  · rw [o2.1 138 _ (by omega), o2.2.1 137 _ (by omega)]
    exact a12 j hj
/-- a name is shut -/
theorem jg_shut {q : Int64 × Nat} (h : jh_g f B fs (q :: sc) (k + 1) S) (hk : k < 4000) (h1 : S.1 152 k = 4) : ∃ S', jg_go 1 S S' ∧ jh_g f B fs sc k S' ∧ of_f (fun a b => a = 135 ∧ (b = 35 ∨ b = 40)) S S' := by
  have e : ∀ F, fn_Mo_judge_62 (F + 1) S = fn_Mo_judge_62 F (wd_i (wd_i S 135 35 (Int32.ofNat k)) 135 40 (Int32.ofNat sc.length)) := fun F => by
    rw [jg_pop h hk, if_neg (by rw [h1]; decide), if_neg (by rw [h1]; decide)]
    show _ = _
    rw [show Int32.ofNat (q :: sc).length - 1 = Int32.ofNat sc.length from im_p _]
  obtain ⟨a1, a2, a3, a4, a5, a6, a7, a8, a9, a10, a11, a12⟩ := h
  have a6 : sc.length + 1 ≤ 16 := a6
  generalize hS : wd_i (wd_i S 135 35 (Int32.ofNat k)) 135 40 (Int32.ofNat sc.length) = S2 at e
  have o2 : of_f (fun a b => a = 135 ∧ (b = 35 ∨ b = 40)) S S2 := by
    rw [← hS]
    exact of_i (by omega) (of_i (by omega) of_refl)
  have hne : ∀ b, b ≠ 35 → b ≠ 40 → S2.1 135 b = S.1 135 b := fun b h1 h2 => o2.1 _ _ (by omega)
  refine ⟨S2, e, ⟨(hne 9 (by decide) (by decide)).trans a1, (hne 31 (by decide) (by decide)).trans a2, a3, ?_, ?_, by omega, js_o sc (fun b hb => o2.1 _ _ (by omega)) (fun b => o2.2.1 _ _ (by omega)) a7.2.2.2, a8, (hne 25 (by decide) (by decide)).trans a9, (hne 26 (by decide) (by decide)).trans a10, a11, fun j hj => ?_⟩, o2⟩
  · rw [← hS, fr_ne (by omega), fr_eq]
  · rw [← hS, fr_eq]
  · rw [o2.1 138 _ (by omega), o2.2.1 137 _ (by omega)]
    exact a12 j hj
/-- what is done to one tree leaves the others -/
theorem jr_o {lo' hi' al ah : Nat} {s : Nat} (ho : of_f (jW k s lo hi) S S') (h : hi' ≤ lo ∨ hi ≤ lo') : mr_g f lo' hi' al ah 0 16 S S' := by
  refine ⟨fun x x1 x2 => ⟨ho.1 _ _ ?_, ho.1 _ _ ?_, ho.1 _ _ ?_, ho.1 _ _ ?_, ho.1 _ _ ?_, ho.2.1 _ _ ?_⟩, fun x _ _ => ho.1 _ _ ?_, fun x _ _ => ho.2.1 _ _ ?_⟩ <;> unfold jW <;> omega
theorem jr_p {lo' hi' al ah t : Nat} (ho : of_f (fun a b => (a = 135 ∧ (b = 35 ∨ b = 40)) ∨ (a = 152 ∧ k ≤ b) ∨ (a = 153 ∧ k ≤ b) ∨ (a = 156 ∧ t ≤ b)) S S') : mr_g f lo' hi' al ah 0 16 S S' := by
  refine ⟨fun x x1 x2 => ⟨ho.1 _ _ ?_, ho.1 _ _ ?_, ho.1 _ _ ?_, ho.1 _ _ ?_, ho.1 _ _ ?_, ho.2.1 _ _ ?_⟩, fun x _ _ => ho.1 _ _ ?_, fun x _ _ => ho.2.1 _ _ ?_⟩ <;> omega
theorem jm_o {lo' hi' al ah : Nat} {s : Nat} (ho : of_f (jW k s lo hi) S S') (h : hi' ≤ lo ∨ hi ≤ lo') : mj_g lo' hi' al ah S S' := by
  refine ⟨fun x x1 x2 => ⟨ho.1 _ _ ?_, ho.1 _ _ ?_, ho.1 _ _ ?_, ho.1 _ _ ?_⟩, fun x _ _ => ho.1 _ _ ?_⟩ <;> unfold jW <;> omega
theorem jm_p {lo' hi' al ah t : Nat} (ho : of_f (fun a b => (a = 135 ∧ (b = 35 ∨ b = 40)) ∨ (a = 152 ∧ k ≤ b) ∨ (a = 153 ∧ k ≤ b) ∨ (a = 156 ∧ t ≤ b)) S S') : mj_g lo' hi' al ah S S' := by
  refine ⟨fun x x1 x2 => ⟨ho.1 _ _ ?_, ho.1 _ _ ?_, ho.1 _ _ ?_, ho.1 _ _ ?_⟩, fun x _ _ => ho.1 _ _ ?_⟩ <;> omega
end Jq
