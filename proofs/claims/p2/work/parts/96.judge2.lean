/-! The reference's judge: one node. -/
section Jn
variable {T : Nat → Int32} {n f B k y lo hi : Nat} {S S' S1 : wd_S} {fs : List ps_F} {sc : List (Int64 × Nat)} {e : ps_E}
def js_r (x : Int64) : List (Int64 × Nat) → Int32 → Int32
  | [], n => n
  | q :: r, n => if q.1 = x then Int32.ofNat q.2 else js_r x r n
theorem js_r_look {x : Int64} : ∀ sc : List (Int64 × Nat), js_r x sc (-1) = match ps_look x sc with
    | some s => Int32.ofNat s
    | none => -1 := by
  intro sc
  induction sc with
  | nil => rfl
  | cons q r ih =>
    unfold js_r ps_look
    by_cases h : q.1 = x
    · rw [if_pos h, if_pos h]
    · rw [if_neg h, if_neg h]
      exact ih
theorem jn_56 (hf : f < 96) (h31 : S.1 135 31 = Int32.ofNat f) {m : Nat} (hm : m ≤ 16) (h40 : S.1 135 40 = Int32.ofNat m) (hy : y < 15010) {x : Int64} (hx : S.2.1 148 y = x) (n0 : Int32) : ∀ (sc : List (Int64 × Nat)) (F : Nat), sc.length ≤ m → js_s f sc S → fn_Mo_onJudge_56 (F + sc.length) (Int32.ofNat y) n0 (Int32.ofNat 0) S = fn_Mo_onJudge_56 F (Int32.ofNat y) (js_r x sc n0) (Int32.ofNat sc.length) S := by
  intro sc
  induction sc with
  | nil => intro F _ _; rfl
  | cons q r ih =>
    intro F hl hs
    obtain ⟨a1, a2, a3, a4⟩ := hs
    have hl : r.length + 1 ≤ m := hl
    show fn_Mo_onJudge_56 (F + (r.length + 1)) _ _ _ _ = _
    rw [show F + (r.length + 1) = (F + 1) + r.length by omega, ih (F + 1) (by omega) a4, fn_Mo_onJudge_56, h40, if_pos ((im_lt (by omega) (by omega)).mpr (by omega)), if_neg (ms_in (show r.length < 16 by omega) (by decide)), im_t (by omega), h31, a1]
    have ei : (16 : Int32) * Int32.ofNat f + Int32.ofNat q.2 = Int32.ofNat (16 * f + q.2) := by
      rw [show (16 : Int32) = Int32.ofNat 16 from rfl, ← Int32.ofNat_mul, ← Int32.ofNat_add]
    rw [ei, if_neg (ms_in (show 16 * f + q.2 < 1536 by omega) (by decide)), if_neg (ms_in hy (by decide)), im_t (by omega), im_t (by omega), a3, hx]
    unfold fn_Mo_onJudge_103
    rw [im_s]
    show _ = fn_Mo_onJudge_56 F (Int32.ofNat y) (if q.1 = x then Int32.ofNat q.2 else js_r x r n0) (Int32.ofNat (r.length + 1)) S
    by_cases h : q.1 = x
    · rw [if_pos (sm_eq.mpr h), if_neg (by rintro (z | z); exact im_neg (by omega) z; omega), if_pos h]
    · rw [if_neg (fun z => h (sm_eq.mp z)), if_neg h]
/-- a name alone -/
theorem jn_alone (h : jh_g f B fs sc k S) (hy : y < 15010) (h143 : S.1 143 y = 7) {o : Nat} {V : Nat → Int64} {p : Nat} (h148 : S.2.1 148 y = V o) (h147 : S.1 147 y = Int32.ofNat p) : ∃ S', fn_Mo_onJudge (Int32.ofNat y) S = some S' ∧ of_f (fun a b => (a = 135 ∧ (b = 9 ∨ b = 10)) ∨ (a = 144 ∧ b = y)) S S' ∧ match ps_look (V o) sc with
    | some s => S'.1 135 9 = 0 ∧ S'.1 144 y = Int32.ofNat s ∧ s < 16 ∧ S'.1 135 10 = S.1 135 10
    | none => S'.1 135 9 = 4 ∧ S'.1 135 10 = Int32.ofNat p := by
  obtain ⟨a1, a2, a3, a4, a5, a6, a7, -⟩ := h
  have hin := ms_in hy (show 15010 < 2147483648 by decide)
  unfold fn_Mo_onJudge
  rw [if_neg hin, im_t (by omega), h143, if_neg (by decide), if_neg (by decide), if_neg (by decide), if_neg (by decide), if_neg (by decide), if_neg (by decide), if_pos rfl]
  have e := jn_56 (n0 := -1) a3 a2 a6 a5 hy h148 sc (wd_F - sc.length) (Nat.le_refl _) a7
  rw [show wd_F - sc.length + sc.length = wd_F by rw [show wd_F = 1000000 from rfl]; omega] at e
  have e : fn_Mo_onJudge_56 wd_F (Int32.ofNat y) (-1) 0 S = _ := e
  obtain ⟨F, hF⟩ : ∃ F, wd_F - sc.length = F + 1 := ⟨wd_F - sc.length - 1, by rw [show wd_F = 1000000 from rfl]; omega⟩
  rw [e, hF, fn_Mo_onJudge_56, a5, if_neg (fun z => by have := (im_lt (by omega) (by omega)).mp z; omega), js_r_look]
  unfold fn_Mo_onJudge_126 fn_Mo_onJudge_382
  simp only [wd_b]
  cases hl : ps_look (V o) sc with
  | none =>
    simp only []
    rw [if_pos trivial, if_neg hin, im_t (by omega), h147, mo_stop, if_pos a1, wd_d_s, if_neg (by rintro (z | z); exact im_neg (by omega) z; omega)]
    refine ⟨_, rfl, ?_, ?_, ?_⟩
    · exact of_i (by omega) (of_i (by omega) (of_i (by omega) of_refl))
    · rw [fr_ne (by omega), fr_ne (by omega), fr_eq]
    · rw [fr_ne (by omega), fr_eq]
  | some s =>
    have hs : s < 16 := by
      have : ∀ sc : List (Int64 × Nat), js_s f sc S → ps_look (V o) sc = some s → s < 16 := by
        intro sc
        induction sc with
        | nil => intro _ h; cases h
        | cons q r ih =>
          intro hs hl
          unfold ps_look at hl
          split at hl
          · cases hl; exact hs.2.1
          · exact ih hs.2.2.2 hl
      exact this sc a7 hl
    simp only []
    rw [if_neg (fun z => by have := congrArg Int32.toInt z; rw [im_i (by omega)] at this; exact absurd this (by show ¬(s : Int) = -1; omega)), if_neg hin, im_t (by omega)]
    exact ⟨_, rfl, of_i (by omega) of_refl, by rw [fr_ne (by omega)]; exact a1, fr_eq, hs, fr_ne (by omega)⟩
def jn_cv (B : Nat) (r : Option Nat) : Int32 := match r with
  | some g => Int32.ofNat (48 * B + g)
  | none => -1
theorem jn_245 (h : jh_g f B fs sc k S) (hy : y < 15010) {x : Int64} (hx : S.2.1 148 y = x) : ∀ (l : List ps_F) (j F : Nat) (r : Option Nat), j + l.length = fs.length → (∀ q, (hq : q < l.length) → (hq2 : j + q < fs.length) → l[q] = fs[j + q]) → fn_Mo_onJudge_245 (F + 1 + l.length) (Int32.ofNat y) (jn_cv B r) (Int32.ofNat (48 * B + j)) S = fn_Mo_onJudge_245 (F + 1) (Int32.ofNat y) (jn_cv B (ps_ix x l j r)) (Int32.ofNat (48 * B + fs.length)) S := by
  obtain ⟨a1, a2, a3, a4, a5, a6, a7, a8, a9, a10, a11, a12⟩ := h
  have es : (48 : Int32) * Int32.ofNat B + Int32.ofNat fs.length = Int32.ofNat (48 * B + fs.length) := by
    rw [show (48 : Int32) = Int32.ofNat 48 from rfl, ← Int32.ofNat_mul, ← Int32.ofNat_add]
  intro l
  induction l with
  | nil =>
    intro j F r hj _
    have : j = fs.length := hj
    rw [this]
    rfl
  | cons q l ih =>
    intro j F r hj hl
    have hj : j + (l.length + 1) = fs.length := hj
    show fn_Mo_onJudge_245 (F + 1 + (l.length + 1)) _ _ _ _ = _
    rw [show F + 1 + (l.length + 1) = (F + 1 + l.length) + 1 by omega, fn_Mo_onJudge_245, a9, a10, es, if_pos ((im_lt (by omega) (by omega)).mpr (by omega)), if_neg (ms_in (show 48 * B + j < 96 by omega) (by decide)), if_neg (ms_in hy (by decide)), im_t (by omega), im_t (by omega), hx]
    have hk := (a12 j (by omega)).1
    have hq0 : q = fs[j] := hl 0 (Nat.succ_pos _) (by omega)
    rw [hk, ← hq0]
    unfold fn_Mo_onJudge_285
    rw [im_s]
    have hrec : ∀ r', fn_Mo_onJudge_245 (F + 1 + l.length) (Int32.ofNat y) (jn_cv B r') (Int32.ofNat (48 * B + j + 1)) S = fn_Mo_onJudge_245 (F + 1) (Int32.ofNat y) (jn_cv B (ps_ix x l (j + 1) r')) (Int32.ofNat (48 * B + fs.length)) S := fun r' => ih (j + 1) F r' (by omega) (fun q' h1 h2 => by
      have := hl (q' + 1) (Nat.succ_lt_succ h1) (by omega)
      have e : j + (q' + 1) = j + 1 + q' := by omega
      simp only [e] at this
      exact this)
    show _ = fn_Mo_onJudge_245 (F + 1) (Int32.ofNat y) (jn_cv B (ps_ix x l (j + 1) (if q.1 = x then some j else r))) (Int32.ofNat (48 * B + fs.length)) S
    by_cases he : q.1 = x
    · rw [if_pos (sm_eq.mpr he), if_pos he]
      exact hrec (some j)
    · rw [if_neg (fun z => he (sm_eq.mp z)), if_neg he]
      exact hrec r
theorem jn_ix_lt {x : Int64} : ∀ (l : List ps_F) (j : Nat) (r : Option Nat), (∀ g, r = some g → g < j + l.length) → ∀ g, ps_ix x l j r = some g → g < j + l.length := by
  intro l
  induction l with
  | nil => intro j r hr g hg; exact hr g hg
  | cons q l ih =>
    intro j r hr g hg
    have hg : ps_ix x l (j + 1) (if q.1 = x then some j else r) = some g := hg
    have := ih (j + 1) _ (fun g' hg' => by
      split at hg'
      · cases hg'; show j < j + 1 + l.length; omega
      · have := hr g' hg'
        have this : g' < j + (l.length + 1) := this
        omega) g hg
    show g < j + (l.length + 1)
    omega
/-- the tasks of a call's arguments -/
theorem jn_349 {g a : Nat} (hy : y < 15010) (hg : g + a ≤ 15010) (h144 : S.1 144 y = Int32.ofNat g) : ∀ (q : Nat) (F : Nat) (S1 : wd_S) (k1 : Nat), q ≤ a → q < F → k1 + q < 4000 → S1.1 135 35 = Int32.ofNat k1 → S1.1 144 y = Int32.ofNat g → (∀ b, S1.1 149 b = S.1 149 b) → ∃ S', fn_Mo_onJudge_349 F (Int32.ofNat y) (Int32.ofNat q - 1) S1 = some S' ∧ S'.1 135 35 = Int32.ofNat (k1 + q) ∧ (∀ j, j < q → S'.1 152 (k1 + j) = 1 ∧ S'.1 153 (k1 + j) = S.1 149 (g + (q - 1 - j))) ∧ of_f (fun a' b => (a' = 135 ∧ b = 35) ∨ (a' = 152 ∧ k1 ≤ b) ∨ (a' = 153 ∧ k1 ≤ b)) S1 S' := by
  intro q
  induction q with
  | zero =>
    intro F S1 k1 h1 h2 h3 h4 h5 h6
    obtain ⟨F, rfl⟩ : ∃ z, F = z + 1 := ⟨F - 1, by omega⟩
    rw [fn_Mo_onJudge_349]
    unfold fn_Mo_onJudge_382
    rw [if_pos (by decide)]
    exact ⟨S1, rfl, h4, fun j hj => absurd hj (Nat.not_lt_zero _), of_refl⟩
  | succ q ih =>
    intro F S1 k1 h1 h2 h3 h4 h5 h6
    obtain ⟨F, rfl⟩ : ∃ z, F = z + 1 := ⟨F - 1, by omega⟩
    have es : Int32.ofNat g + Int32.ofNat q = Int32.ofNat (g + q) := (Int32.ofNat_add _ _).symm
    rw [im_p, fn_Mo_onJudge_349, if_neg (im_neg (show q < 2147483648 by omega)), if_neg (ms_in hy (by decide)), im_t (by omega), h5, es, if_neg (ms_in (show g + q < 15010 by omega) (by decide)), im_t (show g + q < 2147483648 by omega), ms_push h4 (by omega), wd_d_s, h6]
    have o1 : of_f (fun a' b => (a' = 135 ∧ b = 35) ∨ (a' = 152 ∧ b = k1) ∨ (a' = 153 ∧ b = k1)) S1 (ms_p k1 1 (S.1 149 (g + q)) S1) := by
      unfold ms_p
      exact of_i (by omega) (of_i (by omega) (of_i (by omega) of_refl))
    obtain ⟨S3, f3, e3, c3, o3⟩ := ih F (ms_p k1 1 (S.1 149 (g + q)) S1) (k1 + 1) (by omega) (by omega) (by omega) (by unfold ms_p; rw [fr_eq]) (by rw [o1.1 144 y (by omega)]; exact h5) (fun b => by rw [o1.1 149 b (by omega)]; exact h6 b)
    have em : Int32.ofNat q + -1 = Int32.ofNat q - 1 := by rw [Int32.sub_eq_add_neg]
    rw [em]
    refine ⟨S3, f3, by rw [e3, show k1 + 1 + q = k1 + (q + 1) by omega], fun j hj => ?_, of_trans (of_mono (fun a b z => by omega) o1) (of_mono (fun a b z => by omega) o3)⟩
    cases j with
    | zero =>
      rw [o3.1 152 (k1 + 0) (by omega), o3.1 153 (k1 + 0) (by omega)]
      unfold ms_p
      refine ⟨?_, ?_⟩
      · rw [fr_ne (by omega), fr_ne (by omega), fr_e (by omega)]
      · rw [fr_ne (by omega), fr_e (by omega), show q + 1 - 1 - 0 = q by omega]
    | succ j =>
      have := c3 j (by omega)
      rw [show k1 + (j + 1) = k1 + 1 + j by omega, show q + 1 - 1 - (j + 1) = q - 1 - j by omega]
      exact this
end Jn
