/-! The reference's judge: names, calls. -/
def mj_b (S : wd_S) (X al ah : Nat) (R : Nat → tr_T → Prop) (y : Nat) (t : tr_T) : Prop := (tr_k t = 1 ∧ tr_a t = 0 ∧ S.1 143 y = 5 ∧ S.1 144 y = tr_v t) ∨ (tr_k t = 2 ∧ tr_a t = 0 ∧ S.1 143 y = 7 ∧ S.1 144 y = tr_v t ∧ ∃ s, s < 16 ∧ tr_v t = Int32.ofNat s) ∨ (tr_k t = 3 ∧ tr_a t = 2 ∧ S.1 143 y = 3 ∧ S.1 146 y = tr_v t ∧ (∃ s, s < 16 ∧ tr_v t = Int32.ofNat s) ∧ ∃ z0 z1, S.1 144 y = Int32.ofNat z0 ∧ S.1 145 y = Int32.ofNat z1 ∧ R z0 (tr_sub t 0) ∧ R z1 (tr_sub t 1)) ∨ (tr_k t = 4 ∧ tr_a t = 3 ∧ S.1 143 y = 2 ∧ ∃ z0 z1 z2, S.1 144 y = Int32.ofNat z0 ∧ S.1 145 y = Int32.ofNat z1 ∧ S.1 146 y = Int32.ofNat z2 ∧ R z0 (tr_sub t 0) ∧ R z1 (tr_sub t 1) ∧ R z2 (tr_sub t 2)) ∨ (tr_k t = 5 ∧ S.1 143 y = 8 ∧ S.1 145 y = Int32.ofNat (tr_a t) ∧ tr_a t ≤ 4 ∧ (∃ g, tr_v t = Int32.ofNat g ∧ S.1 146 y = Int32.ofNat (X + g)) ∧ ∃ g, S.1 144 y = Int32.ofNat g ∧ al ≤ g ∧ g + tr_a t ≤ ah ∧ ∀ j, j < tr_a t → ∃ z, S.1 149 (g + j) = Int32.ofNat z ∧ R z (tr_sub t j)) ∨ ((tr_k t = 6 ∨ tr_k t = 7 ∨ tr_k t = 8 ∨ tr_k t = 9 ∨ tr_k t = 10) ∧ tr_a t = 2 ∧ S.1 143 y = 1 ∧ S.1 146 y = lx_cv (tr_k t) ∧ ∃ z0 z1, S.1 144 y = Int32.ofNat z0 ∧ S.1 145 y = Int32.ofNat z1 ∧ R z0 (tr_sub t 0) ∧ R z1 (tr_sub t 1))
theorem mj_b_m {X al ah al' ah' y : Nat} {S S' : wd_S} {R R' : Nat → tr_T → Prop} {t : tr_T} (hR : ∀ z t, R z t → R' z t) (ha : al' ≤ al) (hh : ah ≤ ah') (h1 : S'.1 143 y = S.1 143 y ∧ S'.1 144 y = S.1 144 y ∧ S'.1 145 y = S.1 145 y ∧ S'.1 146 y = S.1 146 y) (h2 : ∀ x, al ≤ x → x < ah → S'.1 149 x = S.1 149 x) (h : mj_b S X al ah R y t) : mj_b S' X al' ah' R' y t := by
  obtain ⟨a1, a2, a3, a4⟩ := h1
  unfold mj_b at h ⊢
  rw [a1, a2, a3, a4]
  rcases h with h3 | h3 | h3 | h3 | h3 | h3
  · exact Or.inl h3
  · exact Or.inr (Or.inl h3)
  · obtain ⟨b1, b2, b3, b4, b5, z0, z1, c1, c2, c3, c4⟩ := h3
    exact Or.inr (Or.inr (Or.inl ⟨b1, b2, b3, b4, b5, z0, z1, c1, c2, hR _ _ c3, hR _ _ c4⟩))
  · obtain ⟨b1, b2, b3, z0, z1, z2, c1, c2, c3, c4, c5, c6⟩ := h3
    exact Or.inr (Or.inr (Or.inr (Or.inl ⟨b1, b2, b3, z0, z1, z2, c1, c2, c3, hR _ _ c4, hR _ _ c5, hR _ _ c6⟩)))
  · obtain ⟨b1, b2, b3, b4, b5, g, c1, c2, c3, c4⟩ := h3
    refine Or.inr (Or.inr (Or.inr (Or.inr (Or.inl ⟨b1, b2, b3, b4, b5, g, c1, by omega, by omega, fun j hj => ?_⟩))))
    obtain ⟨z, d1, d2⟩ := c4 j hj
    exact ⟨z, (h2 (g + j) (by omega) (by omega)).trans d1, hR _ _ d2⟩
  · obtain ⟨b1, b2, b3, b4, z0, z1, c1, c2, c3, c4⟩ := h3
    exact Or.inr (Or.inr (Or.inr (Or.inr (Or.inr ⟨b1, b2, b3, b4, z0, z1, c1, c2, hR _ _ c3, hR _ _ c4⟩))))
/-- a tree of the reference, ready to be run: X is where its calls' functions begin -/
def mj_t (S : wd_S) (X lo hi al ah : Nat) : Nat → Nat → tr_T → Prop
  | 0 => fun _ _ => False
  | d + 1 => fun y t => lo ≤ y ∧ y < hi ∧ mj_b S X al ah (mj_t S X lo hi al ah d) y t
def mj_g (lo hi al ah : Nat) (S S' : wd_S) : Prop := (∀ x, lo ≤ x → x < hi → S'.1 143 x = S.1 143 x ∧ S'.1 144 x = S.1 144 x ∧ S'.1 145 x = S.1 145 x ∧ S'.1 146 x = S.1 146 x) ∧ ∀ x, al ≤ x → x < ah → S'.1 149 x = S.1 149 x
theorem mj_t_m {X lo hi al ah lo' hi' al' ah' : Nat} {S S' : wd_S} (h1 : lo' ≤ lo) (h2 : hi ≤ hi') (h3 : al' ≤ al) (h4 : ah ≤ ah') (h : mj_g lo hi al ah S S') : ∀ (d y : Nat) (t : tr_T), mj_t S X lo hi al ah d y t → mj_t S' X lo' hi' al' ah' d y t := by
  intro d
  induction d with
  | zero => intro y t h; exact h
  | succ d ih =>
    intro y t ht
    obtain ⟨k1, k2, k3⟩ := ht
    exact ⟨by omega, by omega, mj_b_m ih h3 h4 (h.1 y k1 k2) h.2 k3⟩
theorem mj_g_o {W : Nat → Nat → Prop} {lo hi al ah : Nat} {S S' : wd_S} (ho : of_f W S S') (h1 : ∀ a x, 143 ≤ a → a ≤ 146 → lo ≤ x → x < hi → ¬W a x) (h2 : ∀ x, al ≤ x → x < ah → ¬W 149 x) : mj_g lo hi al ah S S' := ⟨fun x x1 x2 => ⟨ho.1 _ _ (h1 143 x (by omega) (by omega) x1 x2), ho.1 _ _ (h1 144 x (by omega) (by omega) x1 x2), ho.1 _ _ (h1 145 x (by omega) (by omega) x1 x2), ho.1 _ _ (h1 146 x (by omega) (by omega) x1 x2)⟩, fun x x1 x2 => ho.1 _ _ (h2 x x1 x2)⟩
/-- the scope -/
def js_s (f : Nat) : List (Int64 × Nat) → wd_S → Prop
  | [], _ => True
  | q :: r, S => S.1 156 r.length = Int32.ofNat q.2 ∧ q.2 < 16 ∧ S.2.1 142 (16 * f + q.2) = q.1 ∧ js_s f r S
theorem js_o {f : Nat} {S S' : wd_S} : ∀ (sc : List (Int64 × Nat)), (∀ b, b < sc.length → S'.1 156 b = S.1 156 b) → (∀ b, S'.2.1 142 b = S.2.1 142 b) → js_s f sc S → js_s f sc S' := by
  intro sc
  induction sc with
  | nil => intro _ _ _; trivial
  | cons q r ih =>
    intro h1 h2 h
    obtain ⟨a1, a2, a3, a4⟩ := h
    exact ⟨(h1 r.length (Nat.lt_succ_self _)).trans a1, a2, (h2 _).trans a3, ih (fun b hb => h1 b (Nat.lt_succ_of_lt hb)) h2 a4⟩
/-- the judge is at work, with k tasks -/
def jh_g (f B : Nat) (fs : List ps_F) (sc : List (Int64 × Nat)) (k : Nat) (S : wd_S) : Prop := S.1 135 9 = 0 ∧ S.1 135 31 = Int32.ofNat f ∧ f < 96 ∧ S.1 135 35 = Int32.ofNat k ∧ S.1 135 40 = Int32.ofNat sc.length ∧ sc.length ≤ 16 ∧ js_s f sc S ∧ B ≤ 1 ∧ S.1 135 25 = Int32.ofNat B ∧ S.1 135 26 = Int32.ofNat fs.length ∧ fs.length ≤ 48 ∧ ∀ j, (hj : j < fs.length) → S.2.1 137 (48 * B + j) = fs[j].1 ∧ S.1 138 (48 * B + j) = Int32.ofNat fs[j].2.1 ∧ fs[j].2.1 ≤ 4
def jW (k s lo hi a b : Nat) : Prop := (a = 135 ∧ (b = 9 ∨ b = 10 ∨ b = 35 ∨ b = 40)) ∨ ((a = 144 ∨ a = 146) ∧ lo ≤ b ∧ b < hi) ∨ (a = 152 ∧ k ≤ b) ∨ (a = 153 ∧ k ≤ b) ∨ (a = 156 ∧ s ≤ b)
theorem jW_le {k s lo hi k' s' lo' hi' : Nat} (h1 : k ≤ k') (h2 : s ≤ s') (h3 : lo ≤ lo') (h4 : hi' ≤ hi) : ∀ a b, jW k' s' lo' hi' a b → jW k s lo hi a b := by
  rintro a b (h | h | h | h | h)
  · exact Or.inl h
  · exact Or.inr (Or.inl ⟨h.1, by omega, by omega⟩)
  · exact Or.inr (Or.inr (Or.inl ⟨h.1, by omega⟩))
  · exact Or.inr (Or.inr (Or.inr (Or.inl ⟨h.1, by omega⟩)))
  · exact Or.inr (Or.inr (Or.inr (Or.inr ⟨h.1, by omega⟩)))
section Jg
variable {T : Nat → Int32} {n f B k y lo hi : Nat} {S S' S1 : wd_S} {fs : List ps_F} {sc : List (Int64 × Nat)} {e : ps_E}
theorem ps_first_a {V : Nat → Int64} : ∀ (M N : List (Nat × Nat)), ps_first V fs (M ++ N) = match ps_first V fs M with
    | some e => some e
    | none => ps_first V fs N := by
  intro M
  induction M with
  | nil => intro N; rfl
  | cons q r ih =>
    intro N
    show (match ps_bad V fs q with
      | some e => some e
      | none => ps_first V fs (r ++ N)) = (match (match ps_bad V fs q with
      | some e => some e
      | none => ps_first V fs r) with
      | some e => some e
      | none => ps_first V fs N)
    cases ps_bad V fs q with
    | some e => rfl
    | none => exact ih N
/-- g turns of the judge's loop -/
def jg_go (g : Nat) (S S' : wd_S) : Prop := ∀ F, fn_Mo_judge_62 (F + g) S = fn_Mo_judge_62 F S'
theorem jg_t {g g' : Nat} (h1 : jg_go g S S1) (h2 : jg_go g' S1 S') : jg_go (g + g') S S' := fun F => by
  rw [show F + (g + g') = (F + g') + g by omega, h1, h2]
theorem jg_1 {o : Option wd_S} (h : ∀ F, fn_Mo_judge_62 (F + 1) S = wd_d o (fn_Mo_judge_62 F)) (ho : o = some S') : jg_go 1 S S' := fun F => by rw [h F, ho, wd_d_s]
theorem jg_u {t' : Nat} (h : jh_g f B fs sc k S) (ho : of_f (fun a b => (a = 135 ∧ b = 35) ∨ a = 152 ∨ a = 153 ∨ a = 144 ∨ a = 146) S S') (e35 : S'.1 135 35 = Int32.ofNat t') : jh_g f B fs sc t' S' := by
  obtain ⟨a1, a2, a3, a4, a5, a6, a7, a8, a9, a10, a11, a12⟩ := h
  have hne : ∀ b, b ≠ 35 → S'.1 135 b = S.1 135 b := fun b hb => ho.1 _ _ (by omega)
  refine ⟨(hne 9 (by decide)).trans a1, (hne 31 (by decide)).trans a2, a3, e35, (hne 40 (by decide)).trans a5, a6, js_o sc (fun b _ => ho.1 _ _ (by omega)) (fun b => ho.2.1 _ _ (by omega)) a7, a8, (hne 25 (by decide)).trans a9, (hne 26 (by decide)).trans a10, a11, fun j hj => ?_⟩
  rw [ho.1 138 _ (by omega), ho.2.1 137 _ (by omega)]
  exact a12 j hj
theorem jg_pop (h : jh_g f B fs sc (k + 1) S) (hk : k < 4000) (F : Nat) : fn_Mo_judge_62 (F + 1) S = if S.1 152 k = 1 then wd_d (fn_Mo_onJudge (S.1 153 k) (wd_i S 135 35 (Int32.ofNat k))) (fn_Mo_judge_62 F) else if S.1 152 k = 3 then (if (S.1 153 k) < 0 ∨ 15010 ≤ (S.1 153 k).toNatClampNeg then none else if (Int32.ofNat sc.length) < 0 ∨ 16 ≤ (Int32.ofNat sc.length).toNatClampNeg then none else fn_Mo_judge_62 F (wd_i (wd_i (wd_i S 135 35 (Int32.ofNat k)) 156 (Int32.ofNat sc.length).toNatClampNeg (S.1 146 (S.1 153 k).toNatClampNeg)) 135 40 (Int32.ofNat (sc.length + 1)))) else fn_Mo_judge_62 F (wd_i (wd_i S 135 35 (Int32.ofNat k)) 135 40 (Int32.ofNat sc.length - 1)) := by
  obtain ⟨a1, a2, a3, a4, a5, -⟩ := h
  rw [fn_Mo_judge_62, a4, if_pos (show (0 : Int32) < Int32.ofNat (k + 1) from (im_lt (m := 0) (n := k + 1) (by omega) (by omega)).mpr (by omega)), if_pos a1]
  unfold fn_Mo_judge_168
  simp only [wd_b]
  have e40 : (wd_i S 135 35 (Int32.ofNat k)).1 135 40 = Int32.ofNat sc.length := by rw [fr_ne (by omega)]; exact a5
  rw [show Int32.ofNat (k + 1) - (1 : Int32) = Int32.ofNat k from im_p k, fr_eq, if_neg (ms_in hk (by decide)), if_neg (ms_in hk (by decide)), if_neg (ms_in hk (by decide)), im_t (show k < 2147483648 by omega), fr_ne (show ¬(152 = 135 ∧ k = 35) by omega), fr_ne (show ¬(153 = 135 ∧ k = 35) by omega), e40, fr_ne (show ¬(146 = 135 ∧ _ = 35) by omega)]
  have e40' : ∀ x v, (wd_i (wd_i S 135 35 (Int32.ofNat k)) 156 x v).1 135 40 = Int32.ofNat sc.length := fun x v => by rw [fr_ne (by omega)]; exact e40
  rw [e40', im_s]
end Jg
