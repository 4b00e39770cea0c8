/-! part 91 -/
section
/-! The reference: params. -/
def mq_n (f : Nat) : List (Int64 × Nat) → wd_S → Prop
  | [], _ => True
  | q :: r, S => S.2.1 142 (16 * f + r.length) = q.1 ∧ mq_n f r S
/-- the head of a function with p params so far -/
def mq_h (T : Nat → Int32) (n f p i : Nat) (S : wd_S) : Prop := mt_g T n i S ∧ S.1 135 31 = Int32.ofNat f ∧ f < 96 ∧ S.1 138 f = Int32.ofNat p ∧ S.1 139 f = Int32.ofNat p
def mq_W (f a b : Nat) : Prop := nx_W a b ∨ (a = 138 ∧ b = f) ∨ (a = 139 ∧ b = f) ∨ (a = 142 ∧ 16 * f ≤ b ∧ b < 16 * f + 16)
section Mq
variable {T : Nat → Int32} {n f p i : Nat} {S S' : wd_S} {sc : List (Int64 × Nat)}
theorem mq_n_o : ∀ (sc : List (Int64 × Nat)), (∀ b, b < sc.length → S'.2.1 142 (16 * f + b) = S.2.1 142 (16 * f + b)) → mq_n f sc S → mq_n f sc S' := by
  intro sc
  induction sc with
  | nil => intro _ _; trivial
  | cons q r ih =>
    intro h hs
    exact ⟨(h r.length (Nat.lt_succ_self _)).trans hs.1, ih (fun b hb => h b (Nat.lt_succ_of_lt hb)) hs.2⟩
/-- is there such a name -/
theorem mq_look {x : Int64} : ∀ (sc : List (Int64 × Nat)), mq_n f sc S → ((ps_look x sc).isSome = true ↔ ∃ b, b < sc.length ∧ S.2.1 142 (16 * f + b) = x) := by
  intro sc
  induction sc with
  | nil => intro _; exact ⟨fun h => (by cases h), fun ⟨b, hb, _⟩ => absurd hb (Nat.not_lt_zero _)⟩
  | cons q r ih =>
    intro hs
    have ih := ih hs.2
    by_cases hq : q.1 = x
    · rw [show ps_look x (q :: r) = some q.2 from if_pos hq]
      exact ⟨fun _ => ⟨r.length, Nat.lt_succ_self _, hs.1.trans hq⟩, fun _ => rfl⟩
    · rw [show ps_look x (q :: r) = ps_look x r from if_neg hq, ih]
      constructor
      · rintro ⟨b, hb, e⟩
        exact ⟨b, Nat.lt_succ_of_lt hb, e⟩
      · rintro ⟨b, hb, e⟩
        have hb : b < r.length + 1 := hb
        rcases Nat.lt_or_ge b r.length with h | h
        · exact ⟨b, h, e⟩
        · have : b = r.length := by omega
          rw [this, hs.1] at e
          exact absurd e hq
theorem mq_bad {x : Int32} (h9 : ¬S.1 135 9 = 0) : fn_Mo_name_88 x S = some (0, S) := by
  unfold fn_Mo_name_88 fn_Mo_name_136
  rw [if_neg h9, if_neg h9]
theorem mq_27b {F : Nat} {x y : Int32} (h31 : S.1 135 31 = Int32.ofNat f) (hf : f < 96) (h9 : ¬S.1 135 9 = 0) : fn_Mo_name_27 (F + 1) x y S = some (0, S) := by
  rw [fn_Mo_name_27, h31, if_neg (ms_in hf (by decide)), if_neg h9, ite_self, ite_self, mq_bad h9]
theorem mq_27 (hm : mq_h T n f p i S) (hp : p ≤ 4) (hk : tk_K T n i = 2) : ∀ (q j F : Nat), j + q = p → q + 1 < F → ((∀ b, j ≤ b → b < p → ¬S.2.1 142 (16 * f + b) = tk_V T n i) ∧ fn_Mo_name_27 F 1 (Int32.ofNat j) S = fn_Mo_name_88 1 S) ∨ ((∃ b, b < p ∧ S.2.1 142 (16 * f + b) = tk_V T n i) ∧ ∃ S', fn_Mo_name_27 F 1 (Int32.ofNat j) S = some (0, S') ∧ of_f nx_W S S' ∧ mt_e T n (3, i) S') := by
  have hf := hm.2.2.1
  intro q
  induction q with
  | zero =>
    intro j F hj hF
    obtain ⟨F, rfl⟩ : ∃ g, F = g + 1 := ⟨F - 1, by omega⟩
    refine Or.inl ⟨fun b h1 h2 => by omega, ?_⟩
    rw [fn_Mo_name_27, hm.2.1, if_neg (ms_in hf (by decide)), im_t (by omega), hm.2.2.2.1, if_neg (fun z => by have := (im_lt (by omega) (by omega)).mp z; omega)]
  | succ q ih =>
    intro j F hj hF
    obtain ⟨F, rfl⟩ : ∃ g, F = g + 1 := ⟨F - 1, by omega⟩
    have ei : (16 : Int32) * Int32.ofNat f + Int32.ofNat j = Int32.ofNat (16 * f + j) := by
      rw [show (16 : Int32) = Int32.ofNat 16 from rfl, ← Int32.ofNat_mul, ← Int32.ofNat_add]
    have ekey : S.2.1 135 7 = tk_V T n i := hm.1.2.2.2.2.2.2.2.2.2.2.1 hk
    rw [fn_Mo_name_27, hm.2.1, if_neg (ms_in hf (by decide)), im_t (by omega), hm.2.2.2.1, if_pos ((im_lt (by omega) (by omega)).mpr (by omega)), if_neg (by decide), if_pos hm.1.2.2.1, ei, if_neg (ms_in (show 16 * f + j < 1536 by omega) (by decide)), im_t (by omega), ekey]
    unfold fn_Mo_name_82
    rw [im_s]
    by_cases he : S.2.1 142 (16 * f + j) = tk_V T n i
    · rw [if_pos (sm_eq.mpr he)]
      obtain ⟨S2, e2, o2, r2⟩ := mt_stop (x := 3) (by decide) hm.1
      obtain ⟨F, rfl⟩ : ∃ g, F = g + 1 := ⟨F - 1, by omega⟩
      rw [e2, wd_d_s, mq_27b (f := f) (by rw [o2.1 135 31 (by unfold nx_W; omega)]; exact hm.2.1) hf (by rw [r2.2.1]; exact (show ¬(3 : Int32) = 0 by decide))]
      exact Or.inr ⟨⟨j, by omega, he⟩, S2, rfl, o2, r2⟩
    · rw [if_neg (fun z => he (sm_eq.mp z))]
      rcases ih (j + 1) F (by omega) (by omega) with ⟨h1, h2⟩ | h
      · refine Or.inl ⟨fun b b1 b2 => ?_, h2⟩
        by_cases hb : b = j
        · rw [hb]; exact he
        · exact h1 b (by omega) b2
      · exact Or.inr h
theorem mq_name (h8 : n ≤ 8000) (hm : mq_h T n f sc.length i S) (hp : sc.length ≤ 4) (hn : mq_n f sc S) : ∃ x S', fn_Mo_name 1 S = some (x, S') ∧ of_f (mq_W f) S S' ∧ match ps_new (tk_K T n) (ps_look (tk_V T n i) sc).isSome (decide (4 ≤ sc.length)) i with
    | .error e => mt_e T n e S'
    | .ok j => mt_g T n j S' ∧ S'.1 139 f = Int32.ofNat (sc.length + 1) ∧ S'.2.1 142 (16 * f + sc.length) = tk_V T n i ∧ (∀ b, b < sc.length → S'.2.1 142 (16 * f + b) = S.2.1 142 (16 * f + b)) ∧ S'.1 138 f = Int32.ofNat sc.length := by
  have hf := hm.2.2.1
  have k2 : S.1 135 4 = 10 ↔ tk_K T n i = 2 := ma_tok (kk := 2) hm.1 (by decide)
  unfold fn_Mo_name fn_Mo_name_25 ps_new
  rw [if_pos hm.1.2.2.1]
  by_cases hk : tk_K T n i = 2
  · rw [if_pos (k2.mpr hk)]
    rcases mq_27 hm hp hk sc.length 0 wd_F (Nat.zero_add _) (by rw [show wd_F = 1000000 from rfl]; omega) with ⟨h1, h2⟩ | ⟨h1, S2, h2, h3, h4⟩
    · have h2 : fn_Mo_name_27 wd_F 1 0 S = fn_Mo_name_88 1 S := h2
      have hl : ¬(ps_look (tk_V T n i) sc).isSome = true := fun z => by
        obtain ⟨b, hb, e⟩ := (mq_look sc hn).mp z
        exact h1 b (Nat.zero_le _) hb e
      rw [h2, if_neg (show ¬(tk_K T n i = 2 ∧ (ps_look (tk_V T n i) sc).isSome = true) from fun z => hl z.2)]
      unfold fn_Mo_name_88
      rw [if_pos hm.1.2.2.1, if_neg (by decide), hm.2.1, if_neg (ms_in hf (by decide)), im_t (by omega), hm.2.2.2.1]
      by_cases h4 : 4 ≤ sc.length
      · have e4 : sc.length = 4 := by omega
        rw [if_pos (by rw [e4]; rfl), if_pos ⟨hk, decide_eq_true h4⟩]
        unfold fn_Mo_name_126 fn_Mo_name_136
        obtain ⟨S2, e2, o2, r2⟩ := mt_stop (x := 6) (by decide) hm.1
        rw [e2, wd_d_s, if_neg (by rw [r2.2.1]; exact (show ¬(6 : Int32) = 0 by decide))]
        exact ⟨_, _, rfl, of_mono (fun a b z => Or.inl z) o2, r2⟩
      · rw [if_neg (fun z => h4 (by have := (im_eq (m := sc.length) (n := 4) (by omega) (by omega)).mp z; omega)), if_neg (fun z => h4 (of_decide_eq_true z.2))]
        unfold fn_Mo_name_112
        rw [hm.2.1, if_neg (ms_in hf (by decide)), im_t (by omega), hm.2.2.2.2, if_neg (fun z => by have := (im_eq (m := sc.length) (n := 16) (by omega) (by omega)).mp z; omega)]
        unfold fn_Mo_name_136
        have ei : (16 : Int32) * Int32.ofNat f + Int32.ofNat sc.length = Int32.ofNat (16 * f + sc.length) := by
          rw [show (16 : Int32) = Int32.ofNat 16 from rfl, ← Int32.ofNat_mul, ← Int32.ofNat_add]
        have hin96 := ms_in hf (show 96 < 2147483648 by decide)
        rw [if_pos hm.1.2.2.1, hm.2.1, if_neg hin96, im_t (by omega), hm.2.2.2.2, ei, if_neg (ms_in (show 16 * f + sc.length < 1536 by omega) (by decide)), im_t (by omega)]
        simp only [wd_b]
        have g31 : (wd_l S 142 (16 * f + sc.length) (S.2.1 135 7)).1 135 31 = Int32.ofNat f := hm.2.1
        have g139 : (wd_l S 142 (16 * f + sc.length) (S.2.1 135 7)).1 139 f = Int32.ofNat sc.length := hm.2.2.2.2
        rw [g31, if_neg hin96, if_neg hin96, im_t (by omega), g139, im_s]
        generalize hS3 : wd_i (wd_l S 142 (16 * f + sc.length) (S.2.1 135 7)) 139 f (Int32.ofNat (sc.length + 1)) = S3
        have o3 : of_f (fun a b => (a = 139 ∧ b = f) ∨ (a = 142 ∧ b = 16 * f + sc.length)) S S3 := by
          rw [← hS3]
          exact of_i (Or.inl ⟨rfl, rfl⟩) (of_l (Or.inr ⟨rfl, rfl⟩) of_refl)
        have t3 : mt_g T n i S3 := mt_g_o hm.1 (fun a ha => by rw [ha]; exact funext (fun b => o3.1 _ _ (by omega))) (fun b hb => o3.1 _ _ (by omega)) (o3.2.1 _ _ (by omega))
        obtain ⟨S4, f4, o4, r4⟩ := mt_pass h8 t3 (by rw [hk]; decide)
        rw [hk] at r4
        rw [f4, wd_d_s]
        refine ⟨_, S4, rfl, of_trans (of_mono (fun a b z => by rcases z with z | z; exact Or.inr (Or.inr (Or.inl z)); exact Or.inr (Or.inr (Or.inr ⟨z.1, by omega, by omega⟩))) o3) (of_mono (fun a b z => Or.inl z) o4), ?_⟩
        cases q : ps_take (tk_K T n) 2 i with
        | error e => rw [q] at r4; exact r4
        | ok j =>
          rw [q] at r4
          refine ⟨r4, ?_, ?_, fun b hb => ?_, ?_⟩
          · rw [o4.1 139 f (by unfold nx_W; omega), ← hS3, fr_eq]
          · rw [o4.2.1 142 _ (by unfold nx_W; omega), ← hS3]
            show (wd_l S 142 (16 * f + sc.length) (S.2.1 135 7)).2.1 142 (16 * f + sc.length) = _
            rw [fr_l1, if_pos ⟨rfl, rfl⟩]
            exact hm.1.2.2.2.2.2.2.2.2.2.2.1 hk
          · rw [o4.2.1 142 _ (by unfold nx_W; omega), o3.2.1 142 _ (by omega)]
          · rw [o4.1 138 f (by unfold nx_W; omega), o3.1 138 f (by omega)]
            exact hm.2.2.2.1
    · have h2 : fn_Mo_name_27 wd_F 1 0 S = some (0, S2) := h2
      rw [h2, if_pos (show tk_K T n i = 2 ∧ (ps_look (tk_V T n i) sc).isSome = true from ⟨hk, (mq_look sc hn).mpr h1⟩)]
      exact ⟨_, _, rfl, of_mono (fun a b z => Or.inl z) h3, h4⟩
  · rw [if_neg (fun z => hk (k2.mp z)), if_neg (fun z => hk z.1), if_neg (fun z => hk z.1)]
    obtain ⟨S2, e2, o2, r2⟩ := mt_stop (x := 2) (by decide) hm.1
    have h9 : ¬S2.1 135 9 = 0 := by rw [r2.2.1]; exact (show ¬(2 : Int32) = 0 by decide)
    rw [e2, wd_d_s, show wd_F = 999999 + 1 from rfl, mq_27b (f := f) (by rw [o2.1 135 31 (by unfold nx_W; omega)]; exact hm.2.1) hf h9]
    refine ⟨_, _, rfl, of_mono (fun a b z => Or.inl z) o2, ?_⟩
    unfold ps_take
    rw [if_neg hk]
    exact r2
end Mq
end
/-! part 92 -/
section
/-! The reference: a function's params and its E. -/
section Mdd
variable {T : Nat → Int32} {H n f p i c l : Nat} {S S' : wd_S} {sc : List (Int64 × Nat)} {e : ps_E}
theorem md_301b {x : Int32} (h9 : ¬S.1 135 9 = 0) (h31 : S.1 135 31 = Int32.ofNat f) (hf : f < 96) : ∃ S', fn_Mo_definition_301 x S = some S' ∧ of_f (fun a b => (a = 140 ∨ a = 141) ∧ b = f) S S' := by
  have hin := ms_in hf (show 96 < 2147483648 by decide)
  unfold fn_Mo_definition_301
  simp only [wd_b]
  rw [if_neg (by decide), h31, if_neg hin, im_t (by omega)]
  have e31 : ∀ v, (wd_i S 140 f v).1 135 31 = Int32.ofNat f := fun v => by rw [fr_ne (by omega)]; exact h31
  rw [e31, if_neg hin, im_t (by omega), mt_want_e (by rw [fr_ne (by omega), fr_ne (by omega)]; exact h9), wd_d_s]
  exact ⟨_, rfl, of_i (by omega) (of_i (by omega) of_refl)⟩
theorem md_210b {F : Nat} (h9 : ¬S.1 135 9 = 0) (h31 : S.1 135 31 = Int32.ofNat f) (hf : f < 96) : ∃ S', fn_Mo_definition_210 (F + 1) 0 S = some S' ∧ of_f (fun a b => (a = 140 ∨ a = 141) ∧ b = f) S S' := by
  rw [fn_Mo_definition_210, if_pos rfl, mt_want_e h9, wd_d_s, mt_want_e h9, wd_d_s, if_neg h9]
  exact md_301b h9 h31 hf
def md_W (f c l H a b : Nat) : Prop := (a = 135 ∧ ((3 ≤ b ∧ b ≤ 10) ∨ b = 27 ∨ b = 28 ∨ b = 30 ∨ b = 35 ∨ b = 37 ∨ b = 38)) ∨ ((a = 138 ∨ a = 139 ∨ a = 140 ∨ a = 141) ∧ b = f) ∨ (a = 142 ∧ 16 * f ≤ b ∧ b < 16 * f + 16) ∨ (143 ≤ a ∧ a ≤ 148 ∧ c ≤ b ∧ b < H) ∨ (a = 149 ∧ l ≤ b ∧ b < H) ∨ a = 151 ∨ a = 152 ∨ a = 153 ∨ a = 155
theorem md_W_nx : ∀ a b, nx_W a b → md_W f c l H a b := fun a b h => Or.inl ⟨h.1, Or.inl h.2⟩
theorem md_W_mp {m t k u : Nat} : ∀ a b, mp_W f m t k u c l H a b → md_W f c l H a b := by
  rintro a b (h | h | h | h | h | h | h | h | h)
  · exact Or.inl h
  · exact Or.inr (Or.inl ⟨by omega, h.2⟩)
  · exact Or.inr (Or.inr (Or.inl ⟨h.1, by omega, h.2.2⟩))
  · exact Or.inr (Or.inr (Or.inr (Or.inl h)))
  · exact Or.inr (Or.inr (Or.inr (Or.inr (Or.inl h))))
  · exact Or.inr (Or.inr (Or.inr (Or.inr (Or.inr (Or.inl h.1)))))
  · exact Or.inr (Or.inr (Or.inr (Or.inr (Or.inr (Or.inr (Or.inl h.1))))))
  · exact Or.inr (Or.inr (Or.inr (Or.inr (Or.inr (Or.inr (Or.inr (Or.inl h.1)))))))
  · exact Or.inr (Or.inr (Or.inr (Or.inr (Or.inr (Or.inr (Or.inr (Or.inr h.1)))))))
theorem md_W_mq : ∀ a b, mq_W f a b → md_W f c l H a b := by
  rintro a b (h | h | h | h)
  · exact md_W_nx a b h
  · exact Or.inr (Or.inl ⟨by omega, h.2⟩)
  · exact Or.inr (Or.inl ⟨by omega, h.2⟩)
  · exact Or.inr (Or.inr (Or.inl h))
theorem md_W_0 : ∀ a b, (a = 140 ∨ a = 141) ∧ b = f → md_W f c l H a b := fun a b h => Or.inr (Or.inl ⟨by omega, h.2⟩)
theorem md_run (g : Nat) (hg : g + 1 ≤ 1000000) (hgo : mp_go g S S') (hend : ¬S'.1 135 9 = 0 ∨ S'.1 135 35 = Int32.ofNat 0) : fn_Mo_parse_21 wd_F S = some S' := by
  rw [show wd_F = (999999 - g + 1) + g by rw [show wd_F = 1000000 from rfl]; omega, hgo, fn_Mo_parse_21]
  unfold fn_Mo_parse_114
  rcases hend with h | h
  · rw [if_neg h, ite_self]
  · rw [h, if_neg (by decide)]
theorem md_tail (h8 : n ≤ 8000) (hm : mq_h T n f sc.length i S) (hp : sc.length ≤ 4) {o F : Nat} (h27 : S.1 135 27 = Int32.ofNat c) (h28 : S.1 135 28 = Int32.ofNat l) (h30 : S.1 135 30 = Int32.ofNat 0) (hc : c + 1501 ≤ H + i) (hl : l + 1501 ≤ H + i) (hH : H ≤ 3002) : ∃ S', fn_Mo_definition_210 (F + 1) 0 S = some S' ∧ of_f (md_W f c l H) S S' ∧ (∀ b, b < sc.length → S'.2.1 142 (16 * f + b) = S.2.1 142 (16 * f + b)) ∧ match ps_body (tk_K T n) (tk_V T n) o (sc, i) with
    | .error e => mt_e T n e S'
    | .ok q => mt_g T n q.2 S' ∧ S'.1 138 f = Int32.ofNat sc.length ∧ S'.1 139 f = Int32.ofNat q.1.2.2.2.2.2 ∧ S'.1 141 f = Int32.ofNat q.1.2.2.2.2.1 ∧ S'.1 135 27 = Int32.ofNat (c + q.1.2.2.2.2.1) ∧ S'.1 135 30 = Int32.ofNat 0 ∧ ∃ l' y, l ≤ l' ∧ l' + i ≤ l + q.2 ∧ S'.1 135 28 = Int32.ofNat l' ∧ S'.1 140 f = Int32.ofNat y ∧ mr_t T n f S' c (c + q.1.2.2.2.2.1) l l' sc.length 16 96 y q.1.2.2.1 := by
  have hf := hm.2.2.1
  have hin := ms_in hf (show 96 < 2147483648 by decide)
  rw [fn_Mo_definition_210, if_pos rfl]
  unfold ps_body
  have hbad : ∀ (S1 : wd_S) (e : ps_E) (x : Int32), of_f (md_W f c l H) S S1 → (∀ b, b < sc.length → S1.2.1 142 (16 * f + b) = S.2.1 142 (16 * f + b)) → mt_e T n e S1 → S1.1 135 31 = Int32.ofNat f → ∃ S', fn_Mo_definition_301 x S1 = some S' ∧ of_f (md_W f c l H) S S' ∧ (∀ b, b < sc.length → S'.2.1 142 (16 * f + b) = S.2.1 142 (16 * f + b)) ∧ mt_e T n e S' := by
    intro S1 e x o1 k1 r1 h31
    have h9 : ¬S1.1 135 9 = 0 := by rw [r1.2.1]; exact r1.1
    obtain ⟨S2, e2, o2⟩ := md_301b (x := x) h9 h31 hf
    exact ⟨S2, e2, of_trans o1 (of_mono md_W_0 o2), fun b hb => by rw [o2.2.1 142 _ (by omega)]; exact k1 b hb, mt_e_o r1 (o2.1 135 9 (by omega)) (o2.1 135 10 (by omega))⟩
  obtain ⟨S1, f1, o1, r1⟩ := mt_want (k := 16) h8 hm.1 (by decide) (by decide)
  have f1 : fn_Mo_want 15 S = some S1 := f1
  rw [f1, wd_d_s]
  show ∃ S', _ ∧ _ ∧ _ ∧ (match ps_b (ps_take (tk_K T n) 16 i) (fun i4 => ps_b (ps_take (tk_K T n) 14 i4) fun i5 => ps_b (ps_ex (tk_K T n) (tk_V T n) 24 sc i5 sc.length) fun q => ps_b (ps_take (tk_K T n) 18 q.2.2.2.1) fun i6 => (.ok ((tk_V T n o, sc.length, q.1, q.2.1, q.2.2.1, q.2.2.2.2), i6) : Except ps_E (ps_F × Nat))) with
    | .error e => mt_e T n e S'
    | .ok q => _)
  cases q1 : ps_take (tk_K T n) 16 i with
  | error e =>
    rw [q1] at r1
    have h9 : ¬S1.1 135 9 = 0 := by rw [r1.2.1]; exact r1.1
    rw [mt_want_e h9, wd_d_s, if_neg h9]
    exact hbad S1 e _ (of_mono md_W_nx o1) (fun b _ => o1.2.1 142 _ (by unfold nx_W; omega)) r1 (by rw [o1.1 135 31 (by unfold nx_W; omega)]; exact hm.2.1)
  | ok i4 =>
    rw [q1] at r1
    obtain ⟨-, t2, rfl, -⟩ := ps_take_ok q1
    have r1 : mt_g T n (i + 1) S1 := r1
    obtain ⟨S2, f2, o2, r2⟩ := mt_want (k := 14) h8 r1 (by decide) (by decide)
    have f2 : fn_Mo_want 13 S1 = some S2 := f2
    rw [f2, wd_d_s]
    have o12 := of_trans o1 o2
    show ∃ S', _ ∧ _ ∧ _ ∧ (match ps_b (ps_take (tk_K T n) 14 (i + 1)) (fun i5 => ps_b (ps_ex (tk_K T n) (tk_V T n) 24 sc i5 sc.length) fun q => ps_b (ps_take (tk_K T n) 18 q.2.2.2.1) fun i6 => (.ok ((tk_V T n o, sc.length, q.1, q.2.1, q.2.2.1, q.2.2.2.2), i6) : Except ps_E (ps_F × Nat))) with
      | .error e => mt_e T n e S'
      | .ok q => _)
    cases q2 : ps_take (tk_K T n) 14 (i + 1) with
    | error e =>
      rw [q2] at r2
      have h9 : ¬S2.1 135 9 = 0 := by rw [r2.2.1]; exact r2.1
      rw [if_neg h9]
      exact hbad S2 e _ (of_mono md_W_nx o12) (fun b _ => o12.2.1 142 _ (by unfold nx_W; omega)) r2 (by rw [o12.1 135 31 (by unfold nx_W; omega)]; exact hm.2.1)
    | ok i5 =>
      rw [q2] at r2
      obtain ⟨-, t5, rfl, -⟩ := ps_take_ok q2
      have r2 : mt_g T n (i + 1 + 1) S2 := r2
      have e27 : S2.1 135 27 = Int32.ofNat c := by rw [o12.1 135 27 (by unfold nx_W; omega)]; exact h27
      rw [if_pos r2.2.2.1, e27]
      unfold fn_Mo_parse
      simp only [wd_b]
      generalize hS3 : wd_i (wd_i (wd_i S2 135 35 0) 135 37 0) 135 38 0 = S3
      have o3 : of_f (fun a b => a = 135 ∧ (b = 35 ∨ b = 37 ∨ b = 38)) S2 S3 := by
        rw [← hS3]
        exact of_i (by omega) (of_i (by omega) (of_i (by omega) of_refl))
      have hne : ∀ b, b ≠ 35 → b ≠ 37 → b ≠ 38 → S3.1 135 b = S2.1 135 b := fun b h1 h2 h3 => o3.1 _ _ (by omega)
      have m3 : mh_g T n f sc.length (0 + ([] : List (Int32 × Int32)).length) 0 0 c l 0 (i + 1 + 1) S3 := by
        refine ⟨mt_g_o r2 (fun a ha => by rw [ha]; exact funext (fun b => o3.1 _ _ (by omega))) (fun b hb => hne b (by omega) (by omega) (by omega)) (o3.2.1 _ _ (by omega)), ?_, hf, ?_, by omega, ?_, ?_, ?_, ?_, ?_, ?_⟩
        · rw [hne 31 (by decide) (by decide) (by decide), o12.1 135 31 (by unfold nx_W; omega)]; exact hm.2.1
        · rw [o3.1 139 f (by omega), o12.1 139 f (by unfold nx_W; omega)]; exact hm.2.2.2.2
        · rw [← hS3, fr_ne (by omega), fr_ne (by omega), fr_eq]; rfl
        · rw [← hS3, fr_ne (by omega), fr_eq]; rfl
        · rw [hne 30 (by decide) (by decide) (by decide), o12.1 135 30 (by unfold nx_W; omega)]; exact h30
        · rw [hne 27 (by decide) (by decide) (by decide)]; exact e27
        · rw [hne 28 (by decide) (by decide) (by decide), o12.1 135 28 (by unfold nx_W; omega)]; exact h28
        · rw [← hS3, fr_eq]; rfl
      obtain ⟨S4, f4, m4, x4, o4⟩ := mh_push (xs := []) (x := 4) (y := 0) m3 (by decide) (fun j hj => absurd hj (Nat.not_lt_zero _))
      rw [f4, wd_d_s]
      have v4 : S4.1 152 0 = 4 := (x4 0 (show 0 < 1 by decide)).1
      obtain ⟨g, S5, G5, O5, R5⟩ := mx_ex (f := f) (H := H) h8 24 sc (i + 1 + 1) sc.length 0 0 0 c l 0 S4 m4 v4 (by decide) (by decide) (Nat.zero_le _) (by omega) (by omega) ⟨rfl, hH⟩
      have OO5 : of_f (md_W f c l H) S S5 := of_trans (of_mono md_W_nx o12) (of_trans (of_mono (fun a b z => Or.inl ⟨z.1, by omega⟩) o3) (of_trans (of_mono (fun a b z => md_W_mp a b (mw_p_le (m := 0) (k := 0) (u := 0) (Nat.zero_le 0) a b z)) o4) (of_mono md_W_mp O5)))
      have k5 : ∀ b, b < sc.length → S5.2.1 142 (16 * f + b) = S.2.1 142 (16 * f + b) := fun b hb => by
        rw [O5.2.1 142 _ (mp_W_n (by omega)), o4.2.1 142 _ (by unfold mw_p; omega), o3.2.1 142 _ (by omega), o12.2.1 142 _ (by unfold nx_W; omega)]
      have e31 : S5.1 135 31 = Int32.ofNat f := by
        rw [O5.1 135 31 (mp_W_n (by omega)), o4.1 135 31 (by unfold mw_p; omega), hne 31 (by decide) (by decide) (by decide), o12.1 135 31 (by unfold nx_W; omega)]; exact hm.2.1
      show ∃ S', _ ∧ _ ∧ _ ∧ (match ps_b (ps_ex (tk_K T n) (tk_V T n) 24 sc (i + 1 + 1) sc.length) (fun q => ps_b (ps_take (tk_K T n) 18 q.2.2.2.1) fun i6 => (.ok ((tk_V T n o, sc.length, q.1, q.2.1, q.2.2.1, q.2.2.2.2), i6) : Except ps_E (ps_F × Nat))) with
        | .error e => mt_e T n e S'
        | .ok q => _)
      cases q3 : ps_ex (tk_K T n) (tk_V T n) 24 sc (i + 1 + 1) sc.length with
      | error e =>
        rw [q3] at R5
        obtain ⟨r5, g5⟩ := R5
        rw [md_run g (by omega) G5 (Or.inl (by rw [r5.2.1]; exact r5.1)), wd_d_s]
        exact hbad S5 e _ OO5 k5 r5 e31
      | ok q =>
        rw [q3] at R5
        obtain ⟨g5, l', L1, L2, M5, y, Y5, D5⟩ := R5
        obtain ⟨p1, p2, p3, p4, p5, p6, p7, -⟩ := ps_ex_good _ _ _ _ _ q3
        rw [md_run g (by omega) G5 (Or.inr M5.2.2.2.2.2.1), wd_d_s]
        unfold fn_Mo_definition_301
        simp only [wd_b]
        rw [if_neg (by decide), e31, if_neg hin, im_t (by omega), show (0 : Int32).toNatClampNeg = 0 from rfl, Y5]
        have e31' : (wd_i S5 140 f (Int32.ofNat y)).1 135 31 = Int32.ofNat f := by rw [fr_ne (by omega)]; exact e31
        have e27' : (wd_i S5 140 f (Int32.ofNat y)).1 135 27 = Int32.ofNat (c + q.2.2.1) := by rw [fr_ne (by omega)]; exact M5.2.2.2.2.2.2.2.2.1
        rw [e31', if_neg hin, im_t (by omega), e27', ← Int32.ofNat_sub _ _ (Nat.le_add_right c q.2.2.1), Nat.add_sub_cancel_left]
        generalize hS6 : wd_i (wd_i S5 140 f (Int32.ofNat y)) 141 f (Int32.ofNat q.2.2.1) = S6
        have o6 : of_f (fun a b => (a = 140 ∨ a = 141) ∧ b = f) S5 S6 := by
          rw [← hS6]
          exact of_i (by omega) (of_i (by omega) of_refl)
        have t6 : mt_g T n q.2.2.2.1 S6 := mt_g_o M5.1 (fun a ha => by rw [ha]; exact funext (fun b => o6.1 _ _ (by omega))) (fun b hb => o6.1 _ _ (by omega)) (o6.2.1 _ _ (by omega))
        obtain ⟨S7, f7, o7, r7⟩ := mt_want (k := 18) h8 t6 (by decide) (by decide)
        have f7 : fn_Mo_want 17 S6 = some S7 := f7
        rw [f7, wd_d_s]
        have OO7 : of_f (md_W f c l H) S S7 := of_trans OO5 (of_trans (of_mono md_W_0 o6) (of_mono md_W_nx o7))
        have k7 : ∀ b, b < sc.length → S7.2.1 142 (16 * f + b) = S.2.1 142 (16 * f + b) := fun b hb => by
          rw [o7.2.1 142 _ (by unfold nx_W; omega), o6.2.1 142 _ (by omega)]
          exact k5 b hb
        refine ⟨S7, rfl, OO7, k7, ?_⟩
        show (match ps_b (ps_take (tk_K T n) 18 q.2.2.2.1) (fun i6 => (.ok ((tk_V T n o, sc.length, q.1, q.2.1, q.2.2.1, q.2.2.2.2), i6) : Except ps_E (ps_F × Nat))) with
          | .error e => mt_e T n e S7
          | .ok q => mt_g T n q.2 S7 ∧ S7.1 138 f = Int32.ofNat sc.length ∧ S7.1 139 f = Int32.ofNat q.1.2.2.2.2.2 ∧ S7.1 141 f = Int32.ofNat q.1.2.2.2.2.1 ∧ S7.1 135 27 = Int32.ofNat (c + q.1.2.2.2.2.1) ∧ S7.1 135 30 = Int32.ofNat 0 ∧ ∃ l' y, l ≤ l' ∧ l' + i ≤ l + q.2 ∧ S7.1 135 28 = Int32.ofNat l' ∧ S7.1 140 f = Int32.ofNat y ∧ mr_t T n f S7 c (c + q.1.2.2.2.2.1) l l' sc.length 16 96 y q.1.2.2.1)
        cases q4 : ps_take (tk_K T n) 18 q.2.2.2.1 with
        | error e => rw [q4] at r7; exact r7
        | ok i6 =>
          rw [q4] at r7
          obtain ⟨-, t9, rfl, -⟩ := ps_take_ok q4
          have hk : ∀ b, b = 27 ∨ b = 28 ∨ b = 30 → S7.1 135 b = S5.1 135 b := fun b hb => by rw [o7.1 135 b (by unfold nx_W; omega), o6.1 135 b (by omega)]
          refine ⟨r7, ?_, ?_, ?_, ?_, ?_, l', y, L1, ?_, ?_, ?_, ?_⟩
          · rw [o7.1 138 f (by unfold nx_W; omega), o6.1 138 f (by omega), O5.1 138 f (mp_W_n (by omega)), o4.1 138 f (by unfold mw_p; omega), o3.1 138 f (by omega), o12.1 138 f (by unfold nx_W; omega)]
            exact hm.2.2.2.1
          · rw [o7.1 139 f (by unfold nx_W; omega), o6.1 139 f (by omega)]
            exact M5.2.2.2.1
          · rw [o7.1 141 f (by unfold nx_W; omega), ← hS6, fr_eq]
          · rw [hk 27 (by omega)]; exact M5.2.2.2.2.2.2.2.2.1
          · rw [hk 30 (by omega)]; exact M5.2.2.2.2.2.2.2.1
          · show l' + i ≤ l + (q.2.2.2.1 + 1)
            omega
          · rw [hk 28 (by omega)]; exact M5.2.2.2.2.2.2.2.2.2.1
          · rw [o7.1 140 f (by unfold nx_W; omega), ← hS6, fr_ne (by omega), fr_eq]
          · exact mr_t_m (Nat.le_refl _) (Nat.le_refl _) (Nat.le_refl _) (Nat.le_refl _) (Nat.le_refl _) (p4 (by omega)) (mr_g_t (mr_g_o o6 (fun a x y1 y2 y3 y4 => by omega) (fun x y1 y2 => by omega) (fun x y1 y2 => by omega)) (mr_g_o o7 (fun a x y1 y2 y3 y4 => by unfold nx_W; omega) (fun x y1 y2 => by unfold nx_W; omega) (fun x y1 y2 => by unfold nx_W; omega))) _ _ _ D5
end Mdd
end
/-! part 93 -/
section
/-! The reference: a function. -/
section Mfn
variable {T : Nat → Int32} {H n f p i c l B : Nat} {S S' : wd_S} {sc : List (Int64 × Nat)} {e : ps_E} {fs : List ps_F}
theorem mn_pars (h8 : n ≤ 8000) : ∀ (q F i : Nat) (sc : List (Int64 × Nat)) (S : wd_S), 6 ≤ q + sc.length → 10 ≤ F + sc.length → mq_h T n f sc.length i S → sc.length ≤ 4 → mq_n f sc S → ps_ps sc → ∃ F' S', fn_Mo_definition_210 F 1 S = fn_Mo_definition_210 (F' + 1) 0 S' ∧ of_f (mq_W f) S S' ∧ S'.1 135 31 = Int32.ofNat f ∧ match ps_b (ps_par (tk_K T n) (tk_V T n) sc i) (fun w => ps_pars (tk_K T n) (tk_V T n) q w.1 w.2) with
    | .error e => mt_e T n e S'
    | .ok w => mq_h T n f w.1.length w.2 S' ∧ mq_n f w.1 S' ∧ ps_ps w.1 ∧ w.1.length ≤ 4 ∧ i ≤ w.2 := by
  intro q
  induction q with
  | zero => intro F i sc S h1 h2 hm h4; omega
  | succ q ih =>
    intro F i sc S h1 h2 hm h4 hn hps
    have hf := hm.2.2.1
    have hin := ms_in hf (show 96 < 2147483648 by decide)
    obtain ⟨F, rfl⟩ : ∃ g, F = g + 3 := ⟨F - 3, by omega⟩
    rw [fn_Mo_definition_210, if_neg (by decide)]
    obtain ⟨x, S2, f2, o2, r2⟩ := mq_name h8 hm h4 hn
    rw [f2, wd_c_s]
    have e31 : S2.1 135 31 = Int32.ofNat f := by rw [o2.1 135 31 (by unfold mq_W nx_W; omega)]; exact hm.2.1
    unfold ps_par
    cases q1 : ps_new (tk_K T n) (ps_look (tk_V T n i) sc).isSome (decide (4 ≤ sc.length)) i with
    | error e =>
      rw [q1] at r2
      have h9 : ¬S2.1 135 9 = 0 := by rw [r2.2.1]; exact r2.1
      rw [if_neg h9]
      unfold fn_Mo_definition_240 fn_Mo_definition_260 fn_Mo_definition_261 fn_Mo_definition_270
      rw [if_neg h9, if_pos rfl]
      exact ⟨F + 1, S2, rfl, o2, e31, r2⟩
    | ok j =>
      rw [q1] at r2
      obtain ⟨q1a, q1b, q1c⟩ := ps_new_ok q1
      have q1c := of_decide_eq_false q1c
      obtain ⟨t1, t2, rfl, t4⟩ := ps_take_ok q1a
      obtain ⟨r2, a139, a142, a142', a138⟩ := r2
      rw [if_pos r2.2.2.1, e31, if_neg hin, if_neg hin, im_t (by omega), a138, im_s]
      simp only [wd_b]
      generalize hS3 : wd_i S2 138 f (Int32.ofNat (sc.length + 1)) = S3
      have o3 : of_f (fun a b => a = 138 ∧ b = f) S2 S3 := by rw [← hS3]; exact of_i ⟨rfl, rfl⟩ of_refl
      have t3 : mt_g T n (i + 1) S3 := mt_g_o r2 (fun a ha => by rw [ha]; exact funext (fun b => o3.1 _ _ (by omega))) (fun b hb => o3.1 _ _ (by omega)) (o3.2.1 _ _ (by omega))
      have O3 : of_f (mq_W f) S S3 := of_trans o2 (of_mono (fun a b z => Or.inr (Or.inl z)) o3)
      have m3 : mq_h T n f (sc.length + 1) (i + 1) S3 := ⟨t3, by rw [o3.1 135 31 (by omega)]; exact e31, hf, by rw [← hS3, fr_eq], by rw [o3.1 139 f (by omega)]; exact a139⟩
      have n3 : mq_n f ((tk_V T n i, sc.length) :: sc) S3 := ⟨by rw [o3.2.1 142 _ (by omega)]; exact a142, mq_n_o sc (fun b hb => by rw [o3.2.1 142 _ (by omega)]; exact a142' b hb) hn⟩
      have p3 : ps_ps ((tk_V T n i, sc.length) :: sc) := ⟨rfl, hps⟩
      unfold fn_Mo_definition_240 fn_Mo_definition_260
      have tk : S3.1 135 4 = 16 ↔ tk_K T n (i + 1) = 17 := ma_tok (kk := 17) t3 (by decide)
      rw [if_pos t3.2.2.1]
      show ∃ F' S', _ ∧ _ ∧ _ ∧ (match ps_pars (tk_K T n) (tk_V T n) (q + 1) ((tk_V T n i, sc.length) :: sc) (i + 1) with
        | .error e => mt_e T n e S'
        | .ok w => mq_h T n f w.1.length w.2 S' ∧ mq_n f w.1 S' ∧ ps_ps w.1 ∧ w.1.length ≤ 4 ∧ i ≤ w.2)
      unfold ps_pars
      by_cases c17 : tk_K T n (i + 1) = 17
      · rw [if_pos (tk.mpr c17), if_pos c17]
        unfold fn_Mo_definition_261 fn_Mo_definition_270
        rw [if_neg (by decide)]
        obtain ⟨S4, f4, o4, r4⟩ := mt_pass h8 t3 (by rw [c17]; decide)
        rw [c17] at r4
        rw [f4, wd_d_s]
        have O4 : of_f (mq_W f) S S4 := of_trans O3 (of_mono (fun a b z => Or.inl z) o4)
        have e31' : S4.1 135 31 = Int32.ofNat f := by rw [o4.1 135 31 (by unfold nx_W; omega)]; exact m3.2.1
        cases q2 : ps_take (tk_K T n) 17 (i + 1) with
        | error e =>
          rw [q2] at r4
          have h9 : ¬S4.1 135 9 = 0 := by rw [r4.2.1]; exact r4.1
          rw [fn_Mo_definition_210, if_neg (by decide)]
          have hname : fn_Mo_name 1 S4 = some (0, S4) := by
            unfold fn_Mo_name fn_Mo_name_25
            rw [if_neg h9, show wd_F = 999999 + 1 from rfl, mq_27b (f := f) e31' hf h9]
          rw [hname, wd_c_s, if_neg h9]
          unfold fn_Mo_definition_240 fn_Mo_definition_260 fn_Mo_definition_261 fn_Mo_definition_270
          rw [if_neg h9, if_pos rfl]
          exact ⟨F, S4, rfl, O4, e31', r4⟩
        | ok i2 =>
          rw [q2] at r4
          obtain ⟨-, t6, rfl, -⟩ := ps_take_ok q2
          have m4 : mq_h T n f ((tk_V T n i, sc.length) :: sc).length (i + 1 + 1) S4 := ⟨r4, e31', hf, by rw [o4.1 138 f (by unfold nx_W; omega)]; exact m3.2.2.2.1, by rw [o4.1 139 f (by unfold nx_W; omega)]; exact m3.2.2.2.2⟩
          obtain ⟨F', S5, f5, o5, e5, r5⟩ := ih (F + 2) (i + 1 + 1) ((tk_V T n i, sc.length) :: sc) S4 (by show 6 ≤ q + (sc.length + 1); omega) (by show 10 ≤ F + 2 + (sc.length + 1); omega) m4 (by show sc.length + 1 ≤ 4; omega) (mq_n_o _ (fun b hb => o4.2.1 142 _ (by unfold nx_W; omega)) n3) p3
          refine ⟨F', S5, f5, of_trans O4 o5, e5, ?_⟩
          show (match ps_b (ps_par (tk_K T n) (tk_V T n) ((tk_V T n i, sc.length) :: sc) (i + 1 + 1)) (fun w => ps_pars (tk_K T n) (tk_V T n) q w.1 w.2) with
            | .error e => mt_e T n e S5
            | .ok w => mq_h T n f w.1.length w.2 S5 ∧ mq_n f w.1 S5 ∧ ps_ps w.1 ∧ w.1.length ≤ 4 ∧ i ≤ w.2)
          cases q3 : ps_b (ps_par (tk_K T n) (tk_V T n) ((tk_V T n i, sc.length) :: sc) (i + 1 + 1)) (fun w => ps_pars (tk_K T n) (tk_V T n) q w.1 w.2) with
          | error e => rw [q3] at r5; exact r5
          | ok w =>
            rw [q3] at r5
            obtain ⟨z1, z2, z3, z4, z5⟩ := r5
            exact ⟨z1, z2, z3, z4, by omega⟩
      · rw [if_neg (fun z => c17 (tk.mp z)), if_neg c17]
        unfold fn_Mo_definition_261 fn_Mo_definition_270
        rw [if_pos rfl]
        exact ⟨F + 1, S3, rfl, O3, m3.2.1, m3, n3, p3, by show sc.length + 1 ≤ 4; omega, by show i ≤ i + 1; omega⟩
/-- how many nodes functions have -/
def ps_c : List ps_F → Nat
  | [] => 0
  | q :: r => q.2.2.2.2.1 + ps_c r
theorem ps_c_a (q : ps_F) : ∀ fs : List ps_F, ps_c (fs ++ [q]) = ps_c fs + q.2.2.2.2.1 := by
  intro fs
  induction fs with
  | nil => show q.2.2.2.2.1 + 0 = 0 + q.2.2.2.2.1; omega
  | cons p r ih => show p.2.2.2.2.1 + ps_c (r ++ [q]) = p.2.2.2.2.1 + ps_c r + q.2.2.2.2.1; omega
theorem ps_c_t : ∀ (fs : List ps_F) (j : Nat) (hj : j < fs.length), ps_c (fs.take (j + 1)) = ps_c (fs.take j) + fs[j].2.2.2.2.1 := by
  intro fs
  induction fs with
  | nil => intro j hj; exact absurd hj (Nat.not_lt_zero _)
  | cons q r ih =>
    intro j hj
    cases j with
    | zero => show q.2.2.2.2.1 + 0 = 0 + q.2.2.2.2.1; omega
    | succ j =>
      have hj : j < r.length := Nat.lt_of_succ_lt_succ hj
      show q.2.2.2.2.1 + ps_c (r.take (j + 1)) = q.2.2.2.2.1 + ps_c (r.take j) + r[j].2.2.2.2.1
      rw [ih j hj]
      omega
theorem ps_c_le : ∀ (fs : List ps_F) (i j : Nat), i ≤ j → ps_c (fs.take i) ≤ ps_c (fs.take j) := by
  intro fs
  induction fs with
  | nil => intro i j _; rw [List.take_nil, List.take_nil]; exact Nat.le_refl _
  | cons q r ih =>
    intro i j h
    cases i with
    | zero => exact Nat.zero_le _
    | succ i =>
      cases j with
      | zero => omega
      | succ j =>
        show q.2.2.2.2.1 + ps_c (r.take i) ≤ q.2.2.2.2.1 + ps_c (r.take j)
        have := ih i j (by omega)
        omega
theorem ps_c_f (fs : List ps_F) (j : Nat) : ps_c (fs.take j) ≤ ps_c fs := by
  have h := ps_c_le fs j (max j fs.length) (Nat.le_max_left _ _)
  rw [List.take_of_length_le (Nat.le_max_right j fs.length)] at h
  exact h
/-- a function of the reference's program -/
def mn_F (T : Nat → Int32) (n B f : Nat) (q : ps_F) (c l : Nat) (S : wd_S) : Prop := S.2.1 137 f = q.1 ∧ S.1 138 f = Int32.ofNat q.2.1 ∧ S.1 139 f = Int32.ofNat q.2.2.2.2.2 ∧ S.1 141 f = Int32.ofNat q.2.2.2.2.1 ∧ (∃ y, S.1 140 f = Int32.ofNat y ∧ mr_t T n f S c (c + q.2.2.2.2.1) (1501 * B) l 0 16 96 y q.2.2.1) ∧ ∃ sc, ps_ps sc ∧ sc.length = q.2.1 ∧ sc.length ≤ 4 ∧ mq_n f sc S ∧ rs_t (tk_V T n) 96 sc q.2.2.1 q.2.2.2.1
def mn_P (T : Nat → Int32) (n B : Nat) (fs : List ps_F) (c l : Nat) (S : wd_S) : Prop := S.1 135 25 = Int32.ofNat B ∧ S.1 135 26 = Int32.ofNat fs.length ∧ fs.length ≤ 48 ∧ S.1 135 27 = Int32.ofNat c ∧ S.1 135 28 = Int32.ofNat l ∧ S.1 135 30 = Int32.ofNat 0 ∧ c = 1501 * B + ps_c fs ∧ 1501 * B ≤ l ∧ ∀ j, (hj : j < fs.length) → mn_F T n B (48 * B + j) fs[j] (1501 * B + ps_c (fs.take j)) l S
/-- what reading a program may write -/
def mn_W (B a b : Nat) : Prop := (a = 135 ∧ ((3 ≤ b ∧ b ≤ 10) ∨ b = 26 ∨ b = 27 ∨ b = 28 ∨ b = 30 ∨ b = 31 ∨ b = 35 ∨ b = 37 ∨ b = 38)) ∨ (137 ≤ a ∧ a ≤ 141 ∧ 48 * B ≤ b ∧ b < 48 * B + 48) ∨ (a = 142 ∧ 768 * B ≤ b ∧ b < 768 * B + 768) ∨ (143 ≤ a ∧ a ≤ 149 ∧ 1501 * B ≤ b ∧ b < 1501 * B + 1501) ∨ a = 151 ∨ a = 152 ∨ a = 153 ∨ a = 155
theorem mn_F_o {q : ps_F} {l' : Nat} (hl : l ≤ l') (h1 : S'.2.1 137 f = S.2.1 137 f) (h2 : ∀ a, 138 ≤ a → a ≤ 141 → S'.1 a f = S.1 a f) (h3 : mr_g f c (c + q.2.2.2.2.1) (1501 * B) l 0 16 S S') (h : mn_F T n B f q c l S) : mn_F T n B f q c l' S' := by
  obtain ⟨a1, a2, a3, a4, ⟨y, a5, a6⟩, sc, b1, b2, b3, b4, b5⟩ := h
  refine ⟨h1.trans a1, (h2 138 (by omega) (by omega)).trans a2, (h2 139 (by omega) (by omega)).trans a3, (h2 141 (by omega) (by omega)).trans a4, ⟨y, (h2 140 (by omega) (by omega)).trans a5, mr_t_m (Nat.le_refl _) (Nat.le_refl _) (Nat.le_refl _) hl (Nat.le_refl _) (Nat.le_refl _) h3 _ _ _ a6⟩, sc, b1, b2, b3, mq_n_o sc (fun b hb => h3.2.2 b (Nat.zero_le _) (by omega)) b4, b5⟩
end Mfn
end
/-! part 94 -/
section
/-! The reference: a whole function. -/
section Mo1
variable {T : Nat → Int32} {n i c l B : Nat} {S S' : wd_S} {fs : List ps_F}
theorem mo_111b (h9 : ¬S.1 135 9 = 0) : fn_Mo_definition_85 S = some S := by
  unfold fn_Mo_definition_85 fn_Mo_definition_111
  rw [if_neg h9, if_neg h9]
theorem mo_33b {F : Nat} {x : Int32} (h9 : ¬S.1 135 9 = 0) : fn_Mo_definition_33 (F + 1) x S = some S := by
  rw [fn_Mo_definition_33, if_neg h9, ite_self, mo_111b h9]
theorem mo_33 (hm : mt_g T n i S) (hk : tk_K T n i = 2) (hB : B ≤ 1) (h25 : S.1 135 25 = Int32.ofNat B) {p : Nat} (h26 : S.1 135 26 = Int32.ofNat p) (hp : p ≤ 48) : ∀ (q j F : Nat), j + q = p → q + 1 < F → ((∀ b, j ≤ b → b < p → ¬S.2.1 137 (48 * B + b) = tk_V T n i) ∧ fn_Mo_definition_33 F (Int32.ofNat (48 * B + j)) S = fn_Mo_definition_85 S) ∨ ((∃ b, b < p ∧ S.2.1 137 (48 * B + b) = tk_V T n i) ∧ ∃ S', fn_Mo_definition_33 F (Int32.ofNat (48 * B + j)) S = some S' ∧ of_f nx_W S S' ∧ mt_e T n (3, i) S') := by
  have es : (48 : Int32) * Int32.ofNat B + Int32.ofNat p = Int32.ofNat (48 * B + p) := by
    rw [show (48 : Int32) = Int32.ofNat 48 from rfl, ← Int32.ofNat_mul, ← Int32.ofNat_add]
  intro q
  induction q with
  | zero =>
    intro j F hj hF
    obtain ⟨F, rfl⟩ : ∃ g, F = g + 1 := ⟨F - 1, by omega⟩
    refine Or.inl ⟨fun b h1 h2 => by omega, ?_⟩
    rw [fn_Mo_definition_33, h25, h26, es, if_neg (fun z => by have := (im_lt (by omega) (by omega)).mp z; omega)]
  | succ q ih =>
    intro j F hj hF
    obtain ⟨F, rfl⟩ : ∃ g, F = g + 1 := ⟨F - 1, by omega⟩
    have ekey : S.2.1 135 7 = tk_V T n i := hm.2.2.2.2.2.2.2.2.2.2.1 hk
    rw [fn_Mo_definition_33, h25, h26, es, if_pos ((im_lt (by omega) (by omega)).mpr (by omega)), if_pos hm.2.2.1, if_neg (ms_in (show 48 * B + j < 96 by omega) (by decide)), im_t (by omega), ekey]
    unfold fn_Mo_definition_79
    rw [im_s]
    by_cases he : S.2.1 137 (48 * B + j) = tk_V T n i
    · rw [if_pos (sm_eq.mpr he)]
      obtain ⟨S2, e2, o2, r2⟩ := mt_stop (x := 3) (by decide) hm
      obtain ⟨F, rfl⟩ : ∃ g, F = g + 1 := ⟨F - 1, by omega⟩
      rw [e2, wd_d_s, mo_33b (by rw [r2.2.1]; exact (show ¬(3 : Int32) = 0 by decide))]
      exact Or.inr ⟨⟨j, by omega, he⟩, S2, rfl, o2, r2⟩
    · rw [if_neg (fun z => he (sm_eq.mp z))]
      rcases ih (j + 1) F (by omega) (by omega) with ⟨h1, h2⟩ | h
      · refine Or.inl ⟨fun b b1 b2 => ?_, h2⟩
        by_cases hb : b = j
        · rw [hb]; exact he
        · exact h1 b (by omega) b2
      · exact Or.inr h
theorem mn_nx : ∀ a b, nx_W a b → mn_W B a b := fun a b h => Or.inl ⟨h.1, Or.inl h.2⟩
theorem mn_md {f : Nat} (hf1 : 48 * B ≤ f) (hf2 : f < 48 * B + 48) (hc : 1501 * B ≤ c) (hl : 1501 * B ≤ l) : ∀ a b, md_W f c l (1501 * B + 1501) a b → mn_W B a b := by
  rintro a b (h | h | h | h | h | h | h | h | h)
  · exact Or.inl ⟨h.1, by omega⟩
  · exact Or.inr (Or.inl ⟨by omega, by omega, by omega, by omega⟩)
  · exact Or.inr (Or.inr (Or.inl ⟨h.1, by omega, by omega⟩))
  · exact Or.inr (Or.inr (Or.inr (Or.inl ⟨h.1, by omega, by omega, h.2.2.2⟩)))
  · exact Or.inr (Or.inr (Or.inr (Or.inl ⟨by omega, by omega, by omega, h.2.2⟩)))
  · exact Or.inr (Or.inr (Or.inr (Or.inr (Or.inl h))))
  · exact Or.inr (Or.inr (Or.inr (Or.inr (Or.inr (Or.inl h)))))
  · exact Or.inr (Or.inr (Or.inr (Or.inr (Or.inr (Or.inr (Or.inl h))))))
  · exact Or.inr (Or.inr (Or.inr (Or.inr (Or.inr (Or.inr (Or.inr h))))))
theorem mn_def (h8 : n ≤ 8000) (hB : B ≤ 1) (hm : mt_g T n i S) (hP : mn_P T n B fs c l S) (hc : c ≤ 1501 * B + i) (hl : l ≤ 1501 * B + i) : ∃ S', fn_Mo_definition S = some S' ∧ of_f (mn_W B) S S' ∧ match ps_fun (tk_K T n) (tk_V T n) (fs.map (fun q => q.1)) i with
    | .error e => mt_e T n e S'
    | .ok q => mt_g T n q.2 S' ∧ ∃ l', l' ≤ 1501 * B + q.2 ∧ mn_P T n B (fs ++ [q.1]) (c + q.1.2.2.2.2.1) l' S' := by
  obtain ⟨h25, h26, h48, h27, h28, h30, hcE, hlB, hF⟩ := hP
  have hcB : 1501 * B ≤ c := by omega
  have hi15 := hm.2.2.2.2.1
  have k2 : S.1 135 4 = 10 ↔ tk_K T n i = 2 := ma_tok (kk := 2) hm (by decide)
  have e48 : (48 : Int32) * Int32.ofNat B = Int32.ofNat (48 * B) := by
    rw [show (48 : Int32) = Int32.ofNat 48 from rfl, ← Int32.ofNat_mul]
  unfold fn_Mo_definition fn_Mo_definition_25 ps_fun ps_head
  rw [if_pos hm.2.2.1]
  by_cases hk : tk_K T n i = 2
  · rw [if_pos (k2.mpr hk), h25, e48]
    have hmem : tk_V T n i ∈ fs.map (fun q => q.1) ↔ ∃ b, b < fs.length ∧ S.2.1 137 (48 * B + b) = tk_V T n i := by
      constructor
      · intro z
        obtain ⟨q, hq, e⟩ := List.mem_map.mp z
        obtain ⟨j, hj, rfl⟩ := List.getElem_of_mem hq
        exact ⟨j, hj, (hF j hj).1.trans e⟩
      · rintro ⟨j, hj, e⟩
        exact List.mem_map.mpr ⟨fs[j], List.getElem_mem hj, (hF j hj).1.symm.trans e⟩
    rcases mo_33 hm hk hB h25 h26 h48 fs.length 0 wd_F (Nat.zero_add _) (by rw [show wd_F = 1000000 from rfl]; omega) with ⟨h1, h2⟩ | ⟨h1, S2, h2, h3, h4⟩
    · have h2 : fn_Mo_definition_33 wd_F (Int32.ofNat (48 * B)) S = fn_Mo_definition_85 S := h2
      have hnot : ¬tk_V T n i ∈ fs.map (fun q => q.1) := fun z => by
        obtain ⟨b, hb, e⟩ := hmem.mp z
        exact h1 b (Nat.zero_le _) hb e
      rw [h2]
      unfold fn_Mo_definition_85 ps_new
      rw [if_pos hm.2.2.1, h26, if_neg (show ¬(tk_K T n i = 2 ∧ decide (tk_V T n i ∈ fs.map (fun q => q.1)) = true) from fun z => hnot (of_decide_eq_true z.2)), List.length_map]
      by_cases h48' : 48 ≤ fs.length
      · have e4 : fs.length = 48 := by omega
        rw [if_pos (by rw [e4]; rfl), if_pos ⟨hk, decide_eq_true h48'⟩]
        obtain ⟨S2, e2, o2, r2⟩ := mt_stop (x := 6) (by decide) hm
        unfold fn_Mo_definition_111
        rw [e2, wd_d_s, if_neg (by rw [r2.2.1]; exact (show ¬(6 : Int32) = 0 by decide))]
        exact ⟨S2, rfl, of_mono mn_nx o2, r2⟩
      · rw [if_neg (fun z => h48' (by have := (im_eq (m := fs.length) (n := 48) (by omega) (by omega)).mp z; omega)), if_neg (fun z => h48' (of_decide_eq_true z.2))]
        unfold fn_Mo_definition_111
        have es : Int32.ofNat (48 * B) + Int32.ofNat fs.length = Int32.ofNat (48 * B + fs.length) := (Int32.ofNat_add _ _).symm
        have hin := ms_in (show 48 * B + fs.length < 96 by omega) (show 96 < 2147483648 by decide)
        rw [if_pos hm.2.2.1, h25, e48, h26, es]
        simp only [wd_b]
        generalize hf : 48 * B + fs.length = f at hin
        rw [fr_eq, if_neg hin, im_t (by omega)]
        have e31a : (wd_l (wd_i S 135 31 (Int32.ofNat f)) 137 f ((wd_i S 135 31 (Int32.ofNat f)).2.1 135 7)).1 135 31 = Int32.ofNat f := by rw [fr_l2, fr_eq]
        rw [e31a, if_neg hin, im_t (by omega)]
        have e31b : ∀ v, (wd_i (wd_l (wd_i S 135 31 (Int32.ofNat f)) 137 f ((wd_i S 135 31 (Int32.ofNat f)).2.1 135 7)) 138 f v).1 135 31 = Int32.ofNat f := fun v => by rw [fr_ne (by omega)]; exact e31a
        rw [e31b, if_neg hin, im_t (by omega)]
        have e26 : ∀ v w, (wd_i (wd_i (wd_l (wd_i S 135 31 (Int32.ofNat f)) 137 f ((wd_i S 135 31 (Int32.ofNat f)).2.1 135 7)) 138 f v) 139 f w).1 135 26 = Int32.ofNat fs.length := fun v w => by
          rw [fr_ne (by omega), fr_ne (by omega), fr_l2, fr_ne (by omega)]; exact h26
        rw [e26, im_s]
        generalize hS2 : wd_i (wd_i (wd_i (wd_l (wd_i S 135 31 (Int32.ofNat f)) 137 f ((wd_i S 135 31 (Int32.ofNat f)).2.1 135 7)) 138 f 0) 139 f 0) 135 26 (Int32.ofNat (fs.length + 1)) = S2
        have o2 : of_f (fun a b => (a = 135 ∧ (b = 26 ∨ b = 31)) ∨ ((a = 137 ∨ a = 138 ∨ a = 139) ∧ b = f)) S S2 := by
          rw [← hS2]
          exact of_i (by omega) (of_i (by omega) (of_i (by omega) (of_l (by omega) (of_i (by omega) of_refl))))
        have v26 : S2.1 135 26 = Int32.ofNat (fs.length + 1) := by rw [← hS2, fr_eq]
        have v31 : S2.1 135 31 = Int32.ofNat f := by rw [← hS2, fr_ne (by omega), fr_ne (by omega)]; exact e31b 0
        have v138 : S2.1 138 f = Int32.ofNat 0 := by rw [← hS2, fr_ne (by omega), fr_ne (by omega), fr_eq]; rfl
        have v139 : S2.1 139 f = Int32.ofNat 0 := by rw [← hS2, fr_ne (by omega), fr_eq]; rfl
        have v137 : S2.2.1 137 f = tk_V T n i := by
          rw [← hS2]
          show (wd_l (wd_i S 135 31 (Int32.ofNat f)) 137 f ((wd_i S 135 31 (Int32.ofNat f)).2.1 135 7)).2.1 137 f = _
          rw [fr_l1, if_pos ⟨rfl, rfl⟩]
          exact hm.2.2.2.2.2.2.2.2.2.2.1 hk
        have t2 : mt_g T n i S2 := mt_g_o hm (fun a ha => by rw [ha]; exact funext (fun b => o2.1 _ _ (by omega))) (fun b hb => o2.1 _ _ (by omega)) (o2.2.1 _ _ (by omega))
        clear hS2 e31a e31b e26
        have O2 : of_f (mn_W B) S S2 := of_mono (fun a b z => by
          rcases z with z | z
          · exact Or.inl ⟨z.1, by omega⟩
          · exact Or.inr (Or.inl ⟨by omega, by omega, by omega, by omega⟩)) o2
        have hfin : ∀ (S5 : wd_S) (w : List (Int64 × Nat) × Nat) (F' : Nat), i ≤ w.2 → of_f (fun a b => mq_W f a b) S2 S5 → mq_h T n f w.1.length w.2 S5 → w.1.length ≤ 4 → mq_n f w.1 S5 → ps_ps w.1 → ∃ S', fn_Mo_definition_210 (F' + 1) 0 S5 = some S' ∧ of_f (mn_W B) S S' ∧ match ps_body (tk_K T n) (tk_V T n) i w with
            | .error e => mt_e T n e S'
            | .ok q => mt_g T n q.2 S' ∧ ∃ l', l' ≤ 1501 * B + q.2 ∧ mn_P T n B (fs ++ [q.1]) (c + q.1.2.2.2.2.1) l' S' := by
          intro S5 w F' hiw o5 m5 w4 n5 p5
          obtain ⟨w1, w2⟩ := w
          have e27 : ∀ b, b = 25 ∨ b = 27 ∨ b = 28 ∨ b = 30 → S5.1 135 b = S.1 135 b := fun b hb => by
            rw [o5.1 135 b (by unfold mq_W nx_W; omega), o2.1 135 b (by omega)]
          have hiw : i ≤ w2 := hiw
          obtain ⟨S6, f6, o6, k6, r6⟩ := md_tail (H := 1501 * B + 1501) (o := i) (F := F') h8 m5 w4 ((e27 27 (by omega)).trans h27) ((e27 28 (by omega)).trans h28) ((e27 30 (by omega)).trans h30) (by omega) (by omega) (by omega)
          have O6 : of_f (mn_W B) S S6 := of_trans O2 (of_trans (of_mono (fun a b z => mn_md (by omega) (by omega) hcB hlB a b (md_W_mq a b z)) o5) (of_mono (mn_md (by omega) (by omega) hcB hlB) o6))
          refine ⟨S6, f6, O6, ?_⟩
          cases q1 : ps_body (tk_K T n) (tk_V T n) i (w1, w2) with
          | error e => rw [q1] at r6; exact r6
          | ok q =>
            rw [q1] at r6
            obtain ⟨g1, g138, g139, g141, g27, g30, l', y, L1, L2, g28, g140, D6⟩ := r6
            obtain ⟨i4, k3, k4⟩ := ps_b_ok q1
            obtain ⟨i5, k5, k6'⟩ := ps_b_ok k4
            obtain ⟨r, k7, k8⟩ := ps_b_ok k6'
            obtain ⟨i6, k9, k10⟩ := ps_b_ok k8
            obtain ⟨-, b2, rfl, -⟩ := ps_take_ok k3
            obtain ⟨-, c2, rfl, -⟩ := ps_take_ok k5
            obtain ⟨-, e2, rfl, -⟩ := ps_take_ok k9
            obtain ⟨d1, d2, d3, d4, d5, d6, -⟩ := ps_ex_good _ _ _ _ _ k7
            have hrs := rs_ex _ _ _ _ _ (Nat.le_refl _) k7
            have hq2 : q.2 = r.2.2.2.1 + 1 := by cases k10; rfl
            have hqn : q.1.2.2.2.2.1 = r.2.2.1 := by cases k10; rfl
            refine ⟨g1, l', by omega, ?_, ?_, ?_, g27, g28, g30, by rw [ps_c_a]; omega, by omega, fun j hj => ?_⟩
            · rw [o6.1 135 25 (by unfold md_W; omega), e27 25 (by omega)]; exact h25
            · rw [o6.1 135 26 (by unfold md_W; omega), o5.1 135 26 (by unfold mq_W nx_W; omega), v26, List.length_append]
              rfl
            · rw [List.length_append]
              show fs.length + 1 ≤ 48
              omega
            · have hj' : j < fs.length + 1 := by rw [List.length_append] at hj; exact hj
              by_cases hj2 : j < fs.length
              · rw [List.getElem_append_left hj2]
                have x1 : ∀ a b, b ≠ f → 137 ≤ a → a ≤ 141 → S6.1 a b = S.1 a b ∧ S6.2.1 a b = S.2.1 a b := fun a b y1 y2 y3 => by
                  rw [o6.1 a b (by unfold md_W; omega), o5.1 a b (by unfold mq_W nx_W; omega), o2.1 a b (by omega), o6.2.1 a b (by unfold md_W; omega), o5.2.1 a b (by unfold mq_W nx_W; omega), o2.2.1 a b (by omega)]
                  exact ⟨rfl, rfl⟩
                rw [List.take_append_of_le_length (Nat.le_of_lt hj2)]
                have ht := ps_c_t fs j hj2
                have ht2 := ps_c_f fs (j + 1)
                refine mn_F_o L1 (x1 137 _ (by omega) (by omega) (by omega)).2 (fun a y1 y2 => (x1 a _ (by omega) (by omega) y2).1) ?_ (hF j hj2)
                refine mr_g_t (mr_g_o o2 (fun a x y1 y2 y3 y4 => by omega) (fun x y1 y2 => by omega) (fun x y1 y2 => by omega)) (mr_g_t (mr_g_o o5 (fun a x y1 y2 y3 y4 => by unfold mq_W nx_W; omega) (fun x y1 y2 => by unfold mq_W nx_W; omega) (fun x y1 y2 => by unfold mq_W nx_W; omega)) (mr_g_o o6 (fun a x y1 y2 y3 y4 => by unfold md_W; omega) (fun x y1 y2 => by unfold md_W; omega) (fun x y1 y2 => by unfold md_W; omega)))
              · have ej : j = fs.length := by omega
                subst ej
                rw [List.getElem_append_right (Nat.le_refl _)]
                simp only [Nat.sub_self, List.getElem_cons_zero]
                rw [hf, List.take_append_of_le_length (Nat.le_refl _), List.take_length, ← hcE]
                have hq1 : q.1 = (tk_V T n i, w1.length, r.1, r.2.1, r.2.2.1, r.2.2.2.2) := by cases k10; rfl
                refine ⟨?_, ?_, g139, g141, ⟨y, g140, mr_t_m (Nat.le_refl _) (Nat.le_refl _) hlB (Nat.le_refl _) (Nat.zero_le _) (Nat.le_refl _) ⟨fun _ _ _ => ⟨rfl, rfl, rfl, rfl, rfl, rfl⟩, fun _ _ _ => rfl, fun _ _ _ => rfl⟩ _ _ _ D6⟩, w1, p5, ?_, w4, ?_, ?_⟩
                · rw [o6.2.1 137 f (by unfold md_W; omega), o5.2.1 137 f (by unfold mq_W nx_W; omega), v137, hq1]
                · rw [g138, hq1]
                · rw [hq1]
                · exact mq_n_o w1 (fun b hb => k6 b hb) n5
                · rw [hq1]; exact hrs
        obtain ⟨S3, f3, o3, r3⟩ := mt_pass h8 t2 (by rw [hk]; decide)
        rw [hk] at r3
        rw [f3, wd_d_s]
        have e31' : ∀ S4, of_f nx_W S2 S4 → S4.1 135 31 = Int32.ofNat f := fun S4 o => by rw [o.1 135 31 (by unfold nx_W; omega)]; exact v31
        have hbadT : ∀ (S4 : wd_S) (e : ps_E), of_f nx_W S2 S4 → mt_e T n e S4 → ∃ S', fn_Mo_definition_208 S4 = some S' ∧ of_f (mn_W B) S S' ∧ mt_e T n e S' := by
          intro S4 e o4 r4
          unfold fn_Mo_definition_208 fn_Mo_definition_209
          obtain ⟨S5, f5, o5⟩ := md_210b (F := 999999) (f := f) (by rw [r4.2.1]; exact r4.1) (e31' S4 o4) (by omega)
          refine ⟨S5, f5, of_trans O2 (of_trans (of_mono mn_nx o4) (of_mono (fun a b z => Or.inr (Or.inl ⟨by omega, by omega, by omega, by omega⟩)) o5)), mt_e_o r4 (o5.1 135 9 (by omega)) (o5.1 135 10 (by omega))⟩
        cases q1 : ps_take (tk_K T n) 2 i with
        | error e =>
          rw [q1] at r3
          have h9 : ¬S3.1 135 9 = 0 := by rw [r3.2.1]; exact r3.1
          rw [mt_want_e h9, wd_d_s, if_neg h9]
          exact hbadT S3 e o3 r3
        | ok i1 =>
          rw [q1] at r3
          obtain ⟨-, t5, rfl, -⟩ := ps_take_ok q1
          have r3 : mt_g T n (i + 1) S3 := r3
          obtain ⟨S4, f4, o4, r4⟩ := mt_want (k := 15) h8 r3 (by decide) (by decide)
          have f4 : fn_Mo_want 14 S3 = some S4 := f4
          rw [f4, wd_d_s]
          have o34 := of_trans o3 o4
          show ∃ S', _ ∧ _ ∧ (match ps_b (ps_b (ps_take (tk_K T n) 15 (i + 1)) fun i2 => if tk_K T n i2 = 16 then .ok ([], i2) else ps_b (ps_par (tk_K T n) (tk_V T n) [] i2) fun q => ps_pars (tk_K T n) (tk_V T n) 1500 q.1 q.2) (ps_body (tk_K T n) (tk_V T n) i) with
            | .error e => mt_e T n e S'
            | .ok q => _)
          cases q2 : ps_take (tk_K T n) 15 (i + 1) with
          | error e =>
            rw [q2] at r4
            have h9 : ¬S4.1 135 9 = 0 := by rw [r4.2.1]; exact r4.1
            rw [if_neg h9]
            exact hbadT S4 e o34 r4
          | ok i2 =>
            rw [q2] at r4
            obtain ⟨-, t6, rfl, -⟩ := ps_take_ok q2
            have r4 : mt_g T n (i + 1 + 1) S4 := r4
            rw [if_pos r4.2.2.1]
            have k16 : S4.1 135 4 = 15 ↔ tk_K T n (i + 1 + 1) = 16 := ma_tok (kk := 16) r4 (by decide)
            have m4 : mq_h T n f ([] : List (Int64 × Nat)).length (i + 1 + 1) S4 := ⟨r4, e31' S4 o34, by omega, by rw [o34.1 138 f (by unfold nx_W; omega)]; exact v138, by rw [o34.1 139 f (by unfold nx_W; omega)]; exact v139⟩
            show ∃ S', _ ∧ _ ∧ (match ps_b (if tk_K T n (i + 1 + 1) = 16 then .ok ([], i + 1 + 1) else ps_b (ps_par (tk_K T n) (tk_V T n) [] (i + 1 + 1)) fun q => ps_pars (tk_K T n) (tk_V T n) 1500 q.1 q.2) (ps_body (tk_K T n) (tk_V T n) i) with
              | .error e => mt_e T n e S'
              | .ok q => _)
            by_cases c16 : tk_K T n (i + 1 + 1) = 16
            · rw [if_pos (k16.mpr c16), if_pos c16]
              unfold fn_Mo_definition_208 fn_Mo_definition_209
              exact hfin S4 ([], i + 1 + 1) 999999 (by show i ≤ i + 1 + 1; omega) (of_mono (fun a b z => Or.inl z) o34) m4 (by show 0 ≤ 4; omega) trivial trivial
            · rw [if_neg (fun z => c16 (k16.mp z)), if_neg c16]
              unfold fn_Mo_definition_209
              obtain ⟨F', S5, f5, o5, e5, r5⟩ := mn_pars (f := f) h8 1500 wd_F (i + 1 + 1) [] S4 (by show 6 ≤ 1500 + 0; omega) (by show 10 ≤ 1000000 + 0; omega) m4 (by show 0 ≤ 4; omega) trivial trivial
              rw [f5]
              have o45 : of_f (fun a b => mq_W f a b) S2 S5 := of_trans (of_mono (fun a b z => Or.inl z) o34) o5
              cases q3 : ps_b (ps_par (tk_K T n) (tk_V T n) [] (i + 1 + 1)) (fun w => ps_pars (tk_K T n) (tk_V T n) 1500 w.1 w.2) with
              | error e =>
                rw [q3] at r5
                obtain ⟨S6, f6, o6⟩ := md_210b (F := F') (f := f) (by rw [r5.2.1]; exact r5.1) e5 (by omega)
                refine ⟨S6, f6, of_trans O2 (of_trans (of_mono (fun a b z => mn_md (by omega) (by omega) hcB hlB a b (md_W_mq a b z)) o45) (of_mono (fun a b z => Or.inr (Or.inl ⟨by omega, by omega, by omega, by omega⟩)) o6)), mt_e_o r5 (o6.1 135 9 (by omega)) (o6.1 135 10 (by omega))⟩
              | ok w =>
                rw [q3] at r5
                obtain ⟨z1, z2, z3, z4, z5⟩ := r5
                exact hfin S5 w F' (by omega) o45 z1 z4 z2 z3
    · have h2 : fn_Mo_definition_33 wd_F (Int32.ofNat (48 * B)) S = some S2 := h2
      rw [h2]
      unfold ps_new
      rw [if_pos (show tk_K T n i = 2 ∧ decide (tk_V T n i ∈ fs.map (fun q => q.1)) = true from ⟨hk, decide_eq_true (hmem.mpr h1)⟩)]
      exact ⟨S2, rfl, of_mono mn_nx h3, h4⟩
  · rw [if_neg (fun z => hk (k2.mp z))]
    obtain ⟨S2, e2, o2, r2⟩ := mt_stop (x := 2) (by decide) hm
    have h9 : ¬S2.1 135 9 = 0 := by rw [r2.2.1]; exact (show ¬(2 : Int32) = 0 by decide)
    rw [e2, wd_d_s, show wd_F = 999999 + 1 from rfl, mo_33b h9]
    refine ⟨S2, rfl, of_mono mn_nx o2, ?_⟩
    unfold ps_new ps_take
    rw [if_neg (fun z => hk z.1), if_neg (fun z => hk z.1), if_neg hk]
    exact r2
end Mo1
end
/-! part 95 -/
section
/-! The reference's judge: names, calls. -/
def mj_b (S : wd_S) (X al ah : Nat) (R : Nat → tr_T → Prop) (y : Nat) (t : tr_T) : Prop := (tr_k t = 1 ∧ tr_a t = 0 ∧ S.1 143 y = 5 ∧ S.1 144 y = tr_v t) ∨ (tr_k t = 2 ∧ tr_a t = 0 ∧ S.1 143 y = 7 ∧ S.1 144 y = tr_v t ∧ ∃ s, s < 16 ∧ tr_v t = Int32.ofNat s) ∨ (tr_k t = 3 ∧ tr_a t = 2 ∧ S.1 143 y = 3 ∧ S.1 146 y = tr_v t ∧ (∃ s, s < 16 ∧ tr_v t = Int32.ofNat s) ∧ ∃ z0 z1, S.1 144 y = Int32.ofNat z0 ∧ S.1 145 y = Int32.ofNat z1 ∧ R z0 (tr_sub t 0) ∧ R z1 (tr_sub t 1)) ∨ (tr_k t = 4 ∧ tr_a t = 3 ∧ S.1 143 y = 2 ∧ ∃ z0 z1 z2, S.1 144 y = Int32.ofNat z0 ∧ S.1 145 y = Int32.ofNat z1 ∧ S.1 146 y = Int32.ofNat z2 ∧ R z0 (tr_sub t 0) ∧ R z1 (tr_sub t 1) ∧ R z2 (tr_sub t 2)) ∨ (tr_k t = 5 ∧ S.1 143 y = 8 ∧ S.1 145 y = Int32.ofNat (tr_a t) ∧ tr_a t ≤ 4 ∧ (∃ g, tr_v t = Int32.ofNat g ∧ S.1 146 y = Int32.ofNat (X + g)) ∧ ∃ g, S.1 144 y = Int32.ofNat g ∧ al ≤ g ∧ g + tr_a t ≤ ah ∧ ∀ j, j < tr_a t → ∃ z, S.1 149 (g + j) = Int32.ofNat z ∧ R z (tr_sub t j)) ∨ ((tr_k t = 6 ∨ tr_k t = 7 ∨ tr_k t = 8 ∨ tr_k t = 9 ∨ tr_k t = 10) ∧ tr_a t = 2 ∧ S.1 143 y = 1 ∧ S.1 146 y = lx_cv (tr_k t) ∧ ∃ z0 z1, S.1 144 y = Int32.ofNat z0 ∧ S.1 145 y = Int32.ofNat z1 ∧ R z0 (tr_sub t 0) ∧ R z1 (tr_sub t 1))
theorem mj_b_m {X al ah al' ah' y : Nat} {S S' : wd_S} {R R' : Nat → tr_T → Prop} {t : tr_T} (hR : ∀ z t, R z t → R' z t) (ha : al' ≤ al) (hh : ah ≤ ah') (h1 : S'.1 143 y = S.1 143 y ∧ S'.1 144 y = S.1 144 y ∧ S'.1 145 y = S.1 145 y ∧ S'.1 146 y = S.1 146 y) (h2 : ∀ x, al ≤ x → x < ah → S'.1 149 x = S.1 149 x) (h : mj_b S X al ah R y t) : mj_b S' X al' ah' R' y t := by
  obtain ⟨a1, a2, a3, a4⟩ := h1
  unfold mj_b at h ⊢
  rw [a1, a2, a3, a4]
  rcases h with h3 | h3 | h3 | h3 | h3 | h3
  · exact Or.inl h3
  · exact Or.inr (Or.inl h3)
  · obtain ⟨b1, b2, b3, b4, b5, z0, z1, c1, c2, c3, c4⟩ := h3
    exact Or.inr (Or.inr (Or.inl ⟨b1, b2, b3, b4, b5, z0, z1, c1, c2, hR _ _ c3, hR _ _ c4⟩))
  · obtain ⟨b1, b2, b3, z0, z1, z2, c1, c2, c3, c4, c5, c6⟩ := h3
    exact Or.inr (Or.inr (Or.inr (Or.inl ⟨b1, b2, b3, z0, z1, z2, c1, c2, c3, hR _ _ c4, hR _ _ c5, hR _ _ c6⟩)))
  · obtain ⟨b1, b2, b3, b4, b5, g, c1, c2, c3, c4⟩ := h3
    refine Or.inr (Or.inr (Or.inr (Or.inr (Or.inl ⟨b1, b2, b3, b4, b5, g, c1, by omega, by omega, fun j hj => ?_⟩))))
    obtain ⟨z, d1, d2⟩ := c4 j hj
    exact ⟨z, (h2 (g + j) (by omega) (by omega)).trans d1, hR _ _ d2⟩
  · obtain ⟨b1, b2, b3, b4, z0, z1, c1, c2, c3, c4⟩ := h3
    exact Or.inr (Or.inr (Or.inr (Or.inr (Or.inr ⟨b1, b2, b3, b4, z0, z1, c1, c2, hR _ _ c3, hR _ _ c4⟩))))
/-- a tree of the reference, ready to be run: X is where its calls' functions begin -/
def mj_t (S : wd_S) (X lo hi al ah : Nat) : Nat → Nat → tr_T → Prop
  | 0 => fun _ _ => False
  | d + 1 => fun y t => lo ≤ y ∧ y < hi ∧ mj_b S X al ah (mj_t S X lo hi al ah d) y t
def mj_g (lo hi al ah : Nat) (S S' : wd_S) : Prop := (∀ x, lo ≤ x → x < hi → S'.1 143 x = S.1 143 x ∧ S'.1 144 x = S.1 144 x ∧ S'.1 145 x = S.1 145 x ∧ S'.1 146 x = S.1 146 x) ∧ ∀ x, al ≤ x → x < ah → S'.1 149 x = S.1 149 x
theorem mj_t_m {X lo hi al ah lo' hi' al' ah' : Nat} {S S' : wd_S} (h1 : lo' ≤ lo) (h2 : hi ≤ hi') (h3 : al' ≤ al) (h4 : ah ≤ ah') (h : mj_g lo hi al ah S S') : ∀ (d y : Nat) (t : tr_T), mj_t S X lo hi al ah d y t → mj_t S' X lo' hi' al' ah' d y t := by
  intro d
  induction d with
  | zero => intro y t h; exact h
  | succ d ih =>
    intro y t ht
    obtain ⟨k1, k2, k3⟩ := ht
    exact ⟨by omega, by omega, mj_b_m ih h3 h4 (h.1 y k1 k2) h.2 k3⟩
theorem mj_g_o {W : Nat → Nat → Prop} {lo hi al ah : Nat} {S S' : wd_S} (ho : of_f W S S') (h1 : ∀ a x, 143 ≤ a → a ≤ 146 → lo ≤ x → x < hi → ¬W a x) (h2 : ∀ x, al ≤ x → x < ah → ¬W 149 x) : mj_g lo hi al ah S S' := ⟨fun x x1 x2 => ⟨ho.1 _ _ (h1 143 x (by omega) (by omega) x1 x2), ho.1 _ _ (h1 144 x (by omega) (by omega) x1 x2), ho.1 _ _ (h1 145 x (by omega) (by omega) x1 x2), ho.1 _ _ (h1 146 x (by omega) (by omega) x1 x2)⟩, fun x x1 x2 => ho.1 _ _ (h2 x x1 x2)⟩
/-- the scope -/
def js_s (f : Nat) : List (Int64 × Nat) → wd_S → Prop
  | [], _ => True
  | q :: r, S => S.1 156 r.length = Int32.ofNat q.2 ∧ q.2 < 16 ∧ S.2.1 142 (16 * f + q.2) = q.1 ∧ js_s f r S
theorem js_o {f : Nat} {S S' : wd_S} : ∀ (sc : List (Int64 × Nat)), (∀ b, b < sc.length → S'.1 156 b = S.1 156 b) → (∀ b, S'.2.1 142 b = S.2.1 142 b) → js_s f sc S → js_s f sc S' := by
  intro sc
  induction sc with
  | nil => intro _ _ _; trivial
  | cons q r ih =>
    intro h1 h2 h
    obtain ⟨a1, a2, a3, a4⟩ := h
    exact ⟨(h1 r.length (Nat.lt_succ_self _)).trans a1, a2, (h2 _).trans a3, ih (fun b hb => h1 b (Nat.lt_succ_of_lt hb)) h2 a4⟩
/-- the judge is at work, with k tasks -/
def jh_g (f B : Nat) (fs : List ps_F) (sc : List (Int64 × Nat)) (k : Nat) (S : wd_S) : Prop := S.1 135 9 = 0 ∧ S.1 135 31 = Int32.ofNat f ∧ f < 96 ∧ S.1 135 35 = Int32.ofNat k ∧ S.1 135 40 = Int32.ofNat sc.length ∧ sc.length ≤ 16 ∧ js_s f sc S ∧ B ≤ 1 ∧ S.1 135 25 = Int32.ofNat B ∧ S.1 135 26 = Int32.ofNat fs.length ∧ fs.length ≤ 48 ∧ ∀ j, (hj : j < fs.length) → S.2.1 137 (48 * B + j) = fs[j].1 ∧ S.1 138 (48 * B + j) = Int32.ofNat fs[j].2.1 ∧ fs[j].2.1 ≤ 4
def jW (k s lo hi a b : Nat) : Prop := (a = 135 ∧ (b = 9 ∨ b = 10 ∨ b = 35 ∨ b = 40)) ∨ ((a = 144 ∨ a = 146) ∧ lo ≤ b ∧ b < hi) ∨ (a = 152 ∧ k ≤ b) ∨ (a = 153 ∧ k ≤ b) ∨ (a = 156 ∧ s ≤ b)
theorem jW_le {k s lo hi k' s' lo' hi' : Nat} (h1 : k ≤ k') (h2 : s ≤ s') (h3 : lo ≤ lo') (h4 : hi' ≤ hi) : ∀ a b, jW k' s' lo' hi' a b → jW k s lo hi a b := by
  rintro a b (h | h | h | h | h)
  · exact Or.inl h
  · exact Or.inr (Or.inl ⟨h.1, by omega, by omega⟩)
  · exact Or.inr (Or.inr (Or.inl ⟨h.1, by omega⟩))
  · exact Or.inr (Or.inr (Or.inr (Or.inl ⟨h.1, by omega⟩)))
  · exact Or.inr (Or.inr (Or.inr (Or.inr ⟨h.1, by omega⟩)))
section Jg
variable {T : Nat → Int32} {n f B k y lo hi : Nat} {S S' S1 : wd_S} {fs : List ps_F} {sc : List (Int64 × Nat)} {e : ps_E}
theorem ps_first_a {V : Nat → Int64} : ∀ (M N : List (Nat × Nat)), ps_first V fs (M ++ N) = match ps_first V fs M with
    | some e => some e
    | none => ps_first V fs N := by
  intro M
  induction M with
  | nil => intro N; rfl
  | cons q r ih =>
    intro N
    show (match ps_bad V fs q with
      | some e => some e
      | none => ps_first V fs (r ++ N)) = (match (match ps_bad V fs q with
      | some e => some e
      | none => ps_first V fs r) with
      | some e => some e
      | none => ps_first V fs N)
    cases ps_bad V fs q with
    | some e => rfl
    | none => exact ih N
/-- g turns of the judge's loop -/
def jg_go (g : Nat) (S S' : wd_S) : Prop := ∀ F, fn_Mo_judge_62 (F + g) S = fn_Mo_judge_62 F S'
theorem jg_t {g g' : Nat} (h1 : jg_go g S S1) (h2 : jg_go g' S1 S') : jg_go (g + g') S S' := fun F => by
  rw [show F + (g + g') = (F + g') + g by omega, h1, h2]
theorem jg_1 {o : Option wd_S} (h : ∀ F, fn_Mo_judge_62 (F + 1) S = wd_d o (fn_Mo_judge_62 F)) (ho : o = some S') : jg_go 1 S S' := fun F => by rw [h F, ho, wd_d_s]
theorem jg_u {t' : Nat} (h : jh_g f B fs sc k S) (ho : of_f (fun a b => (a = 135 ∧ b = 35) ∨ a = 152 ∨ a = 153 ∨ a = 144 ∨ a = 146) S S') (e35 : S'.1 135 35 = Int32.ofNat t') : jh_g f B fs sc t' S' := by
  obtain ⟨a1, a2, a3, a4, a5, a6, a7, a8, a9, a10, a11, a12⟩ := h
  have hne : ∀ b, b ≠ 35 → S'.1 135 b = S.1 135 b := fun b hb => ho.1 _ _ (by omega)
  refine ⟨(hne 9 (by decide)).trans a1, (hne 31 (by decide)).trans a2, a3, e35, (hne 40 (by decide)).trans a5, a6, js_o sc (fun b _ => ho.1 _ _ (by omega)) (fun b => ho.2.1 _ _ (by omega)) a7, a8, (hne 25 (by decide)).trans a9, (hne 26 (by decide)).trans a10, a11, fun j hj => ?_⟩
  rw [ho.1 138 _ (by omega), ho.2.1 137 _ (by omega)]
  exact a12 j hj
theorem jg_pop (h : jh_g f B fs sc (k + 1) S) (hk : k < 4000) (F : Nat) : fn_Mo_judge_62 (F + 1) S = if S.1 152 k = 1 then wd_d (fn_Mo_onJudge (S.1 153 k) (wd_i S 135 35 (Int32.ofNat k))) (fn_Mo_judge_62 F) else if S.1 152 k = 3 then (if (S.1 153 k) < 0 ∨ 15010 ≤ (S.1 153 k).toNatClampNeg then none else if (Int32.ofNat sc.length) < 0 ∨ 16 ≤ (Int32.ofNat sc.length).toNatClampNeg then none else fn_Mo_judge_62 F (wd_i (wd_i (wd_i S 135 35 (Int32.ofNat k)) 156 (Int32.ofNat sc.length).toNatClampNeg (S.1 146 (S.1 153 k).toNatClampNeg)) 135 40 (Int32.ofNat (sc.length + 1)))) else fn_Mo_judge_62 F (wd_i (wd_i S 135 35 (Int32.ofNat k)) 135 40 (Int32.ofNat sc.length - 1)) := by
  obtain ⟨a1, a2, a3, a4, a5, -⟩ := h
  rw [fn_Mo_judge_62, a4, if_pos (show (0 : Int32) < Int32.ofNat (k + 1) from (im_lt (m := 0) (n := k + 1) (by omega) (by omega)).mpr (by omega)), if_pos a1]
  unfold fn_Mo_judge_168
  simp only [wd_b]
  have e40 : (wd_i S 135 35 (Int32.ofNat k)).1 135 40 = Int32.ofNat sc.length := by rw [fr_ne (by omega)]; exact a5
  rw [show Int32.ofNat (k + 1) - (1 : Int32) = Int32.ofNat k from im_p k, fr_eq, if_neg (ms_in hk (by decide)), if_neg (ms_in hk (by decide)), if_neg (ms_in hk (by decide)), im_t (show k < 2147483648 by omega), fr_ne (show ¬(152 = 135 ∧ k = 35) by omega), fr_ne (show ¬(153 = 135 ∧ k = 35) by omega), e40, fr_ne (show ¬(146 = 135 ∧ _ = 35) by omega)]
  have e40' : ∀ x v, (wd_i (wd_i S 135 35 (Int32.ofNat k)) 156 x v).1 135 40 = Int32.ofNat sc.length := fun x v => by rw [fr_ne (by omega)]; exact e40
  rw [e40', im_s]
end Jg
end
/-! part 96 -/
section
/-! The reference's judge: one node. -/
section Jn
variable {T : Nat → Int32} {n f B k y lo hi : Nat} {S S' S1 : wd_S} {fs : List ps_F} {sc : List (Int64 × Nat)} {e : ps_E}
def js_r (x : Int64) : List (Int64 × Nat) → Int32 → Int32
  | [], n => n
  | q :: r, n => if q.1 = x then Int32.ofNat q.2 else js_r x r n
theorem js_r_look {x : Int64} : ∀ sc : List (Int64 × Nat), js_r x sc (-1) = match ps_look x sc with
    | some s => Int32.ofNat s
    | none => -1 := by
  intro sc
  induction sc with
  | nil => rfl
  | cons q r ih =>
    unfold js_r ps_look
    by_cases h : q.1 = x
    · rw [if_pos h, if_pos h]
    · rw [if_neg h, if_neg h]
      exact ih
theorem jn_56 (hf : f < 96) (h31 : S.1 135 31 = Int32.ofNat f) {m : Nat} (hm : m ≤ 16) (h40 : S.1 135 40 = Int32.ofNat m) (hy : y < 15010) {x : Int64} (hx : S.2.1 148 y = x) (n0 : Int32) : ∀ (sc : List (Int64 × Nat)) (F : Nat), sc.length ≤ m → js_s f sc S → fn_Mo_onJudge_56 (F + sc.length) (Int32.ofNat y) n0 (Int32.ofNat 0) S = fn_Mo_onJudge_56 F (Int32.ofNat y) (js_r x sc n0) (Int32.ofNat sc.length) S := by
  intro sc
  induction sc with
  | nil => intro F _ _; rfl
  | cons q r ih =>
    intro F hl hs
    obtain ⟨a1, a2, a3, a4⟩ := hs
    have hl : r.length + 1 ≤ m := hl
    show fn_Mo_onJudge_56 (F + (r.length + 1)) _ _ _ _ = _
    rw [show F + (r.length + 1) = (F + 1) + r.length by omega, ih (F + 1) (by omega) a4, fn_Mo_onJudge_56, h40, if_pos ((im_lt (by omega) (by omega)).mpr (by omega)), if_neg (ms_in (show r.length < 16 by omega) (by decide)), im_t (by omega), h31, a1]
    have ei : (16 : Int32) * Int32.ofNat f + Int32.ofNat q.2 = Int32.ofNat (16 * f + q.2) := by
      rw [show (16 : Int32) = Int32.ofNat 16 from rfl, ← Int32.ofNat_mul, ← Int32.ofNat_add]
    rw [ei, if_neg (ms_in (show 16 * f + q.2 < 1536 by omega) (by decide)), if_neg (ms_in hy (by decide)), im_t (by omega), im_t (by omega), a3, hx]
    unfold fn_Mo_onJudge_103
    rw [im_s]
    show _ = fn_Mo_onJudge_56 F (Int32.ofNat y) (if q.1 = x then Int32.ofNat q.2 else js_r x r n0) (Int32.ofNat (r.length + 1)) S
    by_cases h : q.1 = x
    · rw [if_pos (sm_eq.mpr h), if_neg (by rintro (z | z); exact im_neg (by omega) z; omega), if_pos h]
    · rw [if_neg (fun z => h (sm_eq.mp z)), if_neg h]
/-- a name alone -/
theorem jn_alone (h : jh_g f B fs sc k S) (hy : y < 15010) (h143 : S.1 143 y = 7) {o : Nat} {V : Nat → Int64} {p : Nat} (h148 : S.2.1 148 y = V o) (h147 : S.1 147 y = Int32.ofNat p) : ∃ S', fn_Mo_onJudge (Int32.ofNat y) S = some S' ∧ of_f (fun a b => (a = 135 ∧ (b = 9 ∨ b = 10)) ∨ (a = 144 ∧ b = y)) S S' ∧ match ps_look (V o) sc with
    | some s => S'.1 135 9 = 0 ∧ S'.1 144 y = Int32.ofNat s ∧ s < 16 ∧ S'.1 135 10 = S.1 135 10
    | none => S'.1 135 9 = 4 ∧ S'.1 135 10 = Int32.ofNat p := by
  obtain ⟨a1, a2, a3, a4, a5, a6, a7, -⟩ := h
  have hin := ms_in hy (show 15010 < 2147483648 by decide)
  unfold fn_Mo_onJudge
  rw [if_neg hin, im_t (by omega), h143, if_neg (by decide), if_neg (by decide), if_neg (by decide), if_neg (by decide), if_neg (by decide), if_neg (by decide), if_pos rfl]
  have e := jn_56 (n0 := -1) a3 a2 a6 a5 hy h148 sc (wd_F - sc.length) (Nat.le_refl _) a7
  rw [show wd_F - sc.length + sc.length = wd_F by rw [show wd_F = 1000000 from rfl]; omega] at e
  have e : fn_Mo_onJudge_56 wd_F (Int32.ofNat y) (-1) 0 S = _ := e
  obtain ⟨F, hF⟩ : ∃ F, wd_F - sc.length = F + 1 := ⟨wd_F - sc.length - 1, by rw [show wd_F = 1000000 from rfl]; omega⟩
  rw [e, hF, fn_Mo_onJudge_56, a5, if_neg (fun z => by have := (im_lt (by omega) (by omega)).mp z; omega), js_r_look]
  unfold fn_Mo_onJudge_126 fn_Mo_onJudge_382
  simp only [wd_b]
  cases hl : ps_look (V o) sc with
  | none =>
    simp only []
    rw [if_pos trivial, if_neg hin, im_t (by omega), h147, mo_stop, if_pos a1, wd_d_s, if_neg (by rintro (z | z); exact im_neg (by omega) z; omega)]
    refine ⟨_, rfl, ?_, ?_, ?_⟩
    · exact of_i (by omega) (of_i (by omega) (of_i (by omega) of_refl))
    · rw [fr_ne (by omega), fr_ne (by omega), fr_eq]
    · rw [fr_ne (by omega), fr_eq]
  | some s =>
    have hs : s < 16 := by
      have : ∀ sc : List (Int64 × Nat), js_s f sc S → ps_look (V o) sc = some s → s < 16 := by
        intro sc
        induction sc with
        | nil => intro _ h; cases h
        | cons q r ih =>
          intro hs hl
          unfold ps_look at hl
          split at hl
          · cases hl; exact hs.2.1
          · exact ih hs.2.2.2 hl
      exact this sc a7 hl
    simp only []
    rw [if_neg (fun z => by have := congrArg Int32.toInt z; rw [im_i (by omega)] at this; exact absurd this (by show ¬(s : Int) = -1; omega)), if_neg hin, im_t (by omega)]
    exact ⟨_, rfl, of_i (by omega) of_refl, by rw [fr_ne (by omega)]; exact a1, fr_eq, hs, fr_ne (by omega)⟩
def jn_cv (B : Nat) (r : Option Nat) : Int32 := match r with
  | some g => Int32.ofNat (48 * B + g)
  | none => -1
theorem jn_245 (h : jh_g f B fs sc k S) (hy : y < 15010) {x : Int64} (hx : S.2.1 148 y = x) : ∀ (l : List ps_F) (j F : Nat) (r : Option Nat), j + l.length = fs.length → (∀ q, (hq : q < l.length) → (hq2 : j + q < fs.length) → l[q] = fs[j + q]) → fn_Mo_onJudge_245 (F + 1 + l.length) (Int32.ofNat y) (jn_cv B r) (Int32.ofNat (48 * B + j)) S = fn_Mo_onJudge_245 (F + 1) (Int32.ofNat y) (jn_cv B (ps_ix x l j r)) (Int32.ofNat (48 * B + fs.length)) S := by
  obtain ⟨a1, a2, a3, a4, a5, a6, a7, a8, a9, a10, a11, a12⟩ := h
  have es : (48 : Int32) * Int32.ofNat B + Int32.ofNat fs.length = Int32.ofNat (48 * B + fs.length) := by
    rw [show (48 : Int32) = Int32.ofNat 48 from rfl, ← Int32.ofNat_mul, ← Int32.ofNat_add]
  intro l
  induction l with
  | nil =>
    intro j F r hj _
    have : j = fs.length := hj
    rw [this]
    rfl
  | cons q l ih =>
    intro j F r hj hl
    have hj : j + (l.length + 1) = fs.length := hj
    show fn_Mo_onJudge_245 (F + 1 + (l.length + 1)) _ _ _ _ = _
    rw [show F + 1 + (l.length + 1) = (F + 1 + l.length) + 1 by omega, fn_Mo_onJudge_245, a9, a10, es, if_pos ((im_lt (by omega) (by omega)).mpr (by omega)), if_neg (ms_in (show 48 * B + j < 96 by omega) (by decide)), if_neg (ms_in hy (by decide)), im_t (by omega), im_t (by omega), hx]
    have hk := (a12 j (by omega)).1
    have hq0 : q = fs[j] := hl 0 (Nat.succ_pos _) (by omega)
    rw [hk, ← hq0]
    unfold fn_Mo_onJudge_285
    rw [im_s]
    have hrec : ∀ r', fn_Mo_onJudge_245 (F + 1 + l.length) (Int32.ofNat y) (jn_cv B r') (Int32.ofNat (48 * B + j + 1)) S = fn_Mo_onJudge_245 (F + 1) (Int32.ofNat y) (jn_cv B (ps_ix x l (j + 1) r')) (Int32.ofNat (48 * B + fs.length)) S := fun r' => ih (j + 1) F r' (by omega) (fun q' h1 h2 => by
      have := hl (q' + 1) (Nat.succ_lt_succ h1) (by omega)
      have e : j + (q' + 1) = j + 1 + q' := by omega
      simp only [e] at this
      exact this)
    show _ = fn_Mo_onJudge_245 (F + 1) (Int32.ofNat y) (jn_cv B (ps_ix x l (j + 1) (if q.1 = x then some j else r))) (Int32.ofNat (48 * B + fs.length)) S
    by_cases he : q.1 = x
    · rw [if_pos (sm_eq.mpr he), if_pos he]
      exact hrec (some j)
    · rw [if_neg (fun z => he (sm_eq.mp z)), if_neg he]
      exact hrec r
theorem jn_ix_lt {x : Int64} : ∀ (l : List ps_F) (j : Nat) (r : Option Nat), (∀ g, r = some g → g < j + l.length) → ∀ g, ps_ix x l j r = some g → g < j + l.length := by
  intro l
  induction l with
  | nil => intro j r hr g hg; exact hr g hg
  | cons q l ih =>
    intro j r hr g hg
    have hg : ps_ix x l (j + 1) (if q.1 = x then some j else r) = some g := hg
    have := ih (j + 1) _ (fun g' hg' => by
      split at hg'
      · cases hg'; show j < j + 1 + l.length; omega
      · have := hr g' hg'
        have this : g' < j + (l.length + 1) := this
        omega) g hg
    show g < j + (l.length + 1)
    omega
/-- the tasks of a call's arguments -/
theorem jn_349 {g a : Nat} (hy : y < 15010) (hg : g + a ≤ 15010) (h144 : S.1 144 y = Int32.ofNat g) : ∀ (q : Nat) (F : Nat) (S1 : wd_S) (k1 : Nat), q ≤ a → q < F → k1 + q < 4000 → S1.1 135 35 = Int32.ofNat k1 → S1.1 144 y = Int32.ofNat g → (∀ b, S1.1 149 b = S.1 149 b) → ∃ S', fn_Mo_onJudge_349 F (Int32.ofNat y) (Int32.ofNat q - 1) S1 = some S' ∧ S'.1 135 35 = Int32.ofNat (k1 + q) ∧ (∀ j, j < q → S'.1 152 (k1 + j) = 1 ∧ S'.1 153 (k1 + j) = S.1 149 (g + (q - 1 - j))) ∧ of_f (fun a' b => (a' = 135 ∧ b = 35) ∨ (a' = 152 ∧ k1 ≤ b) ∨ (a' = 153 ∧ k1 ≤ b)) S1 S' := by
  intro q
  induction q with
  | zero =>
    intro F S1 k1 h1 h2 h3 h4 h5 h6
    obtain ⟨F, rfl⟩ : ∃ z, F = z + 1 := ⟨F - 1, by omega⟩
    rw [fn_Mo_onJudge_349]
    unfold fn_Mo_onJudge_382
    rw [if_pos (by decide)]
    exact ⟨S1, rfl, h4, fun j hj => absurd hj (Nat.not_lt_zero _), of_refl⟩
  | succ q ih =>
    intro F S1 k1 h1 h2 h3 h4 h5 h6
    obtain ⟨F, rfl⟩ : ∃ z, F = z + 1 := ⟨F - 1, by omega⟩
    have es : Int32.ofNat g + Int32.ofNat q = Int32.ofNat (g + q) := (Int32.ofNat_add _ _).symm
    rw [im_p, fn_Mo_onJudge_349, if_neg (im_neg (show q < 2147483648 by omega)), if_neg (ms_in hy (by decide)), im_t (by omega), h5, es, if_neg (ms_in (show g + q < 15010 by omega) (by decide)), im_t (show g + q < 2147483648 by omega), ms_push h4 (by omega), wd_d_s, h6]
    have o1 : of_f (fun a' b => (a' = 135 ∧ b = 35) ∨ (a' = 152 ∧ b = k1) ∨ (a' = 153 ∧ b = k1)) S1 (ms_p k1 1 (S.1 149 (g + q)) S1) := by
      unfold ms_p
      exact of_i (by omega) (of_i (by omega) (of_i (by omega) of_refl))
    obtain ⟨S3, f3, e3, c3, o3⟩ := ih F (ms_p k1 1 (S.1 149 (g + q)) S1) (k1 + 1) (by omega) (by omega) (by omega) (by unfold ms_p; rw [fr_eq]) (by rw [o1.1 144 y (by omega)]; exact h5) (fun b => by rw [o1.1 149 b (by omega)]; exact h6 b)
    have em : Int32.ofNat q + -1 = Int32.ofNat q - 1 := by rw [Int32.sub_eq_add_neg]
    rw [em]
    refine ⟨S3, f3, by rw [e3, show k1 + 1 + q = k1 + (q + 1) by omega], fun j hj => ?_, of_trans (of_mono (fun a b z => by omega) o1) (of_mono (fun a b z => by omega) o3)⟩
    cases j with
    | zero =>
      rw [o3.1 152 (k1 + 0) (by omega), o3.1 153 (k1 + 0) (by omega)]
      unfold ms_p
      refine ⟨?_, ?_⟩
      · rw [fr_ne (by omega), fr_ne (by omega), fr_e (by omega)]
      · rw [fr_ne (by omega), fr_e (by omega), show q + 1 - 1 - 0 = q by omega]
    | succ j =>
      have := c3 j (by omega)
      rw [show k1 + (j + 1) = k1 + 1 + j by omega, show q + 1 - 1 - (j + 1) = q - 1 - j by omega]
      exact this
end Jn
end
/-! part 97 -/
section
/-! The reference's judge: a call; a whole tree. -/
section Jc
variable {T : Nat → Int32} {n f B k y lo hi : Nat} {S S' S1 : wd_S} {fs : List ps_F} {sc : List (Int64 × Nat)} {e : ps_E}
theorem jn_332 {g a : Nat} {l3 : Int32} (hy : y < 15010) (hg : g + a ≤ 15010) (hk : k + a < 4000) (h35 : S.1 135 35 = Int32.ofNat k) (h144 : S.1 144 y = Int32.ofNat g) (h145 : S.1 145 y = Int32.ofNat a) : ∃ S', fn_Mo_onJudge_332 (Int32.ofNat y) l3 S = some S' ∧ S'.1 146 y = l3 ∧ S'.1 135 35 = Int32.ofNat (k + a) ∧ (∀ j, j < a → S'.1 152 (k + j) = 1 ∧ S'.1 153 (k + j) = S.1 149 (g + (a - 1 - j))) ∧ of_f (fun a' b => (a' = 135 ∧ b = 35) ∨ (a' = 146 ∧ b = y) ∨ (a' = 152 ∧ k ≤ b) ∨ (a' = 153 ∧ k ≤ b)) S S' := by
  have hin := ms_in hy (show 15010 < 2147483648 by decide)
  unfold fn_Mo_onJudge_332
  simp only [wd_b]
  rw [if_neg hin, if_neg hin, im_t (show y < 2147483648 by omega), fr_ne (show ¬(145 = 146 ∧ y = y) by omega), h145]
  obtain ⟨S2, f2, e2, c2, o2⟩ := jn_349 (S := S) (a := a) hy hg h144 a wd_F (wd_i S 146 y l3) k (Nat.le_refl _) (by rw [show wd_F = 1000000 from rfl]; omega) hk (by rw [fr_ne (by omega)]; exact h35) (by rw [fr_ne (by omega)]; exact h144) (fun b => fr_ne (by omega))
  rw [f2]
  refine ⟨S2, rfl, ?_, e2, c2, of_trans (of_i (by omega) of_refl) (of_mono (fun a' b z => by omega) o2)⟩
  rw [o2.1 146 y (by omega), fr_eq]
theorem jn_call (h : jh_g f B fs sc k S) (hy : y < 15010) (h143 : S.1 143 y = 8) {o p g a : Nat} {V : Nat → Int64} (h148 : S.2.1 148 y = V o) (h147 : S.1 147 y = Int32.ofNat p) (h144 : S.1 144 y = Int32.ofNat g) (h145 : S.1 145 y = Int32.ofNat a) (hg : g + a ≤ 15010) (hk : k + a < 4000) : ∃ S', fn_Mo_onJudge (Int32.ofNat y) S = some S' ∧ of_f (fun a' b => (a' = 135 ∧ (b = 9 ∨ b = 10 ∨ b = 35)) ∨ (a' = 146 ∧ b = y) ∨ (a' = 152 ∧ k ≤ b) ∨ (a' = 153 ∧ k ≤ b)) S S' ∧ match ps_bad V fs (o, a + 1) with
    | some e => e.2 = o ∧ ¬e.1 = 0 ∧ S'.1 135 9 = e.1 ∧ S'.1 135 10 = Int32.ofNat p
    | none => S'.1 135 10 = S.1 135 10 ∧ S'.1 135 9 = 0 ∧ S'.1 135 35 = Int32.ofNat (k + a) ∧ (∀ j, j < a → S'.1 152 (k + j) = 1 ∧ S'.1 153 (k + j) = S.1 149 (g + (a - 1 - j))) ∧ ∃ j, ps_ix (V o) fs 0 none = some j ∧ j < 48 ∧ S'.1 146 y = Int32.ofNat (48 * B + j) ∧ a ≤ 4 := by
  have h0 := h
  obtain ⟨a1, a2, a3, a4, a5, a6, a7, a8, a9, a10, a11, a12⟩ := h
  have hin := ms_in hy (show 15010 < 2147483648 by decide)
  have e48 : (48 : Int32) * Int32.ofNat B = Int32.ofNat (48 * B + 0) := by
    rw [show (48 : Int32) = Int32.ofNat 48 from rfl, ← Int32.ofNat_mul]
    rfl
  have es : (48 : Int32) * Int32.ofNat B + Int32.ofNat fs.length = Int32.ofNat (48 * B + fs.length) := by
    rw [show (48 : Int32) = Int32.ofNat 48 from rfl, ← Int32.ofNat_mul, ← Int32.ofNat_add]
  unfold fn_Mo_onJudge
  rw [if_neg hin, im_t (show y < 2147483648 by omega), h143, if_neg (by decide), if_neg (by decide), if_neg (by decide), if_neg (by decide), if_neg (by decide), if_neg (by decide), if_neg (by decide), if_pos rfl, a9, e48]
  obtain ⟨F, hF⟩ : ∃ F, wd_F = F + 1 + fs.length := ⟨wd_F - fs.length - 1, by rw [show wd_F = 1000000 from rfl]; omega⟩
  have e := jn_245 h0 hy h148 fs 0 F none (Nat.zero_add _) (fun q h1 h2 => by simp only [Nat.zero_add])
  rw [hF]
  show ∃ S', fn_Mo_onJudge_245 (F + 1 + fs.length) (Int32.ofNat y) (jn_cv B none) (Int32.ofNat (48 * B + 0)) S = some S' ∧ _
  rw [e, fn_Mo_onJudge_245, a9, a10, es, if_neg (fun z => by have := (im_lt (by omega) (by omega)).mp z; omega)]
  have hbad : ∀ (x : Int32), ¬x = 0 → ∃ S', fn_Mo_onJudge_323 (Int32.ofNat y) (jn_cv B (ps_ix (V o) fs 0 none)) x S = some S' ∧ of_f (fun a' b => (a' = 135 ∧ (b = 9 ∨ b = 10 ∨ b = 35)) ∨ (a' = 146 ∧ b = y) ∨ (a' = 152 ∧ k ≤ b) ∨ (a' = 153 ∧ k ≤ b)) S S' ∧ S'.1 135 9 = x ∧ S'.1 135 10 = Int32.ofNat p := by
    intro x hx
    unfold fn_Mo_onJudge_323
    rw [if_neg hin, im_t (show y < 2147483648 by omega), h147, mo_stop, if_pos a1, wd_d_s]
    have o1 : of_f (fun a' b => a' = 135 ∧ (b = 9 ∨ b = 10)) S (wd_i (wd_i S 135 9 x) 135 10 (Int32.ofNat p)) := of_i (by omega) (of_i (by omega) of_refl)
    obtain ⟨S2, f2, -, -, -, o2⟩ := jn_332 (S := wd_i (wd_i S 135 9 x) 135 10 (Int32.ofNat p)) (l3 := jn_cv B (ps_ix (V o) fs 0 none)) hy hg hk (by rw [o1.1 135 35 (by omega)]; exact a4) (by rw [o1.1 144 y (by omega)]; exact h144) (by rw [o1.1 145 y (by omega)]; exact h145)
    refine ⟨S2, f2, of_trans (of_mono (fun a b z => by omega) o1) (of_mono (fun a b z => by omega) o2), ?_, ?_⟩
    · rw [o2.1 135 9 (by omega), fr_ne (by omega), fr_eq]
    · rw [o2.1 135 10 (by omega), fr_eq]
  have hb0 : ps_bad V fs (o, a + 1) = match ps_ix (V o) fs 0 none with
    | none => some ((4, o) : ps_E)
    | some f => if (fs.getD f ps_d).2.1 = a then none else some (5, o) := rfl
  cases hq : ps_ix (V o) fs 0 none with
  | none =>
    obtain ⟨S2, f2, o2, b2, b3⟩ := hbad 4 (by decide)
    rw [hq] at f2
    rw [if_pos (show jn_cv B none = -1 from rfl)]
    unfold fn_Mo_onJudge_312
    rw [if_pos (show jn_cv B none = -1 from rfl)]
    rw [hq] at hb0
    rw [hb0]
    exact ⟨S2, f2, o2, rfl, (show ¬(4 : Int32) = 0 by decide), b2, b3⟩
  | some j =>
    have hj : j < 0 + fs.length := jn_ix_lt fs 0 none (fun g hg => by cases hg) j hq
    have hj : j < fs.length := by omega
    have hne : ¬jn_cv B (some j) = -1 := fun z => by
      have z : Int32.ofNat (48 * B + j) = -1 := z
      have := congrArg Int32.toInt z
      rw [im_i (by omega)] at this
      exact absurd this (by show ¬(((48 * B + j : Nat)) : Int) = -1; omega)
    rw [if_neg hne]
    show ∃ S', (if Int32.ofNat (48 * B + j) < 0 ∨ 96 ≤ (Int32.ofNat (48 * B + j)).toNatClampNeg then none else _) = some S' ∧ _
    rw [if_neg (ms_in (show 48 * B + j < 96 by omega) (by decide)), if_neg hin, im_t (show y < 2147483648 by omega)]
    show ∃ S', (if S.1 138 (Int32.ofNat (48 * B + j)).toNatClampNeg = S.1 145 y then _ else _) = some S' ∧ _
    rw [im_t (show 48 * B + j < 2147483648 by omega), (a12 j hj).2.1, h145]
    have h4 := (a12 j hj).2.2
    have ed : (fs.getD j ps_d).2.1 = fs[j].2.1 := by
      rw [List.getD_eq_getElem?_getD, List.getElem?_eq_getElem hj]
      rfl
    rw [hq] at hb0
    have hb0 : ps_bad V fs (o, a + 1) = if (fs.getD j ps_d).2.1 = a then none else some ((5, o) : ps_E) := hb0
    by_cases he : fs[j].2.1 = a
    · rw [if_pos (by rw [he]), hb0, ed, if_pos he]
      obtain ⟨S2, f2, b1, b2, b3, o2⟩ := jn_332 (S := S) (l3 := jn_cv B (some j)) hy hg hk a4 h144 h145
      refine ⟨S2, f2, of_mono (fun a b z => by omega) o2, o2.1 135 10 (by omega), by rw [o2.1 135 9 (by omega)]; exact a1, b2, b3, j, rfl, by omega, b1, by omega⟩
    · rw [if_neg (fun z => he ((im_eq (by omega) (by omega)).mp z)), hb0, ed, if_neg he]
      obtain ⟨S2, f2, o2, b2, b3⟩ := hbad 5 (by decide)
      rw [hq] at f2
      unfold fn_Mo_onJudge_312
      rw [if_neg hne]
      exact ⟨S2, f2, o2, rfl, (show ¬(5 : Int32) = 0 by decide), b2, b3⟩
end Jc
end
/-! part 98 -/
section
/-! The reference's judge: runs of its loop one behind the other. -/
def jq (T : Nat → Int32) (n g0 : Nat) (W : Nat → Nat → Prop) (o : Option ps_E) (P : wd_S → Prop) (S : wd_S) : Prop := ∃ g S', jg_go g S S' ∧ g ≤ g0 ∧ of_f W S S' ∧ match o with
  | some e => mt_e T n e S'
  | none => P S' ∧ S'.1 135 10 = S.1 135 10
def ps_or (o o' : Option ps_E) : Option ps_E := match o with
  | some e => some e
  | none => o'
section Jq
variable {T : Nat → Int32} {n f B k y lo hi g0 g1 g2 t b : Nat} {S S' S1 : wd_S} {fs : List ps_F} {sc : List (Int64 × Nat)} {e : ps_E} {W W1 W2 : Nat → Nat → Prop} {o o' : Option ps_E} {P P' : wd_S → Prop} {x z : Int32}
theorem ps_or_n : ps_or o none = o := by cases o <;> rfl
theorem ps_first_b {V : Nat → Int64} (M N : List (Nat × Nat)) : ps_first V fs (M ++ N) = ps_or (ps_first V fs M) (ps_first V fs N) := ps_first_a M N
theorem jq_then (h1 : jq T n g0 W1 o P S) (h2 : ∀ S1, of_f W1 S S1 → P S1 → jq T n g1 W2 o' P' S1) (hg : g0 + g1 ≤ g2) (w1 : ∀ a b, W1 a b → W a b) (w2 : ∀ a b, W2 a b → W a b) : jq T n g2 W (ps_or o o') P' S := by
  obtain ⟨g, S1, a1, a2, a3, a4⟩ := h1
  cases o with
  | some e => exact ⟨g, S1, a1, by omega, of_mono w1 a3, a4⟩
  | none =>
    obtain ⟨a4, a5⟩ := a4
    obtain ⟨g', S2, b1, b2, b3, b4⟩ := h2 S1 a3 a4
    refine ⟨g + g', S2, jg_t a1 b1, by omega, of_trans (of_mono w1 a3) (of_mono w2 b3), ?_⟩
    cases o' with
    | some e => exact b4
    | none => exact ⟨b4.1, b4.2.trans a5⟩
theorem jq_step (h1 : jg_go 1 S S1) (o1 : of_f W S S1) (e1 : S1.1 135 10 = S.1 135 10) (h2 : jq T n g1 W2 o P S1) (hg : 1 + g1 ≤ g2) (w2 : ∀ a b, W2 a b → W a b) : jq T n g2 W o P S := by
  obtain ⟨g, S2, a1, a2, a3, a4⟩ := h2
  refine ⟨1 + g, S2, jg_t h1 a1, by omega, of_trans o1 (of_mono w2 a3), ?_⟩
  cases o with
  | some e => exact a4
  | none => exact ⟨a4.1, a4.2.trans e1⟩
theorem jq_end (h : P S) : jq T n 0 W none P S := ⟨0, S, fun _ => rfl, Nat.le_refl _, of_refl, h, rfl⟩
theorem ms_152 : (ms_p t x z S).1 152 b = if b = t then x else S.1 152 b := by
  unfold ms_p
  rw [fr_ne (by omega), fr_ne (by omega), fr_i1]
  by_cases h : b = t
  · rw [if_pos h, if_pos ⟨rfl, h⟩]
  · rw [if_neg h, if_neg (fun q => h q.2)]
theorem ms_153 : (ms_p t x z S).1 153 b = if b = t then z else S.1 153 b := by
  unfold ms_p
  rw [fr_ne (by omega), fr_i1]
  by_cases h : b = t
  · rw [if_pos h, if_pos ⟨rfl, h⟩]
  · rw [if_neg h, if_neg (fun q => h q.2), fr_ne (by omega)]
theorem ms_35 : (ms_p t x z S).1 135 35 = Int32.ofNat (t + 1) := fr_eq
theorem ms_o : of_f (mw_p t) S (ms_p t x z S) := by
  unfold ms_p
  exact of_i (Or.inr (Or.inr ⟨rfl, rfl⟩)) (of_i (Or.inr (Or.inl ⟨rfl, rfl⟩)) (of_i (Or.inl ⟨rfl, rfl⟩) of_refl))
theorem jg_v {t' : Nat} (h : jh_g f B fs sc k S) (ho : of_f (fun a b => (a = 135 ∧ (b = 9 ∨ b = 10 ∨ b = 35)) ∨ a = 152 ∨ a = 153 ∨ a = 144 ∨ a = 146) S S') (e9 : S'.1 135 9 = 0) (e35 : S'.1 135 35 = Int32.ofNat t') : jh_g f B fs sc t' S' := by
  obtain ⟨a1, a2, a3, a4, a5, a6, a7, a8, a9, a10, a11, a12⟩ := h
  have hne : ∀ b, b ≠ 9 → b ≠ 10 → b ≠ 35 → S'.1 135 b = S.1 135 b := fun b h1 h2 h3 => ho.1 _ _ (by omega)
  refine ⟨e9, (hne 31 (by decide) (by decide) (by decide)).trans a2, a3, e35, (hne 40 (by decide) (by decide) (by decide)).trans a5, a6, js_o sc (fun b _ => ho.1 _ _ (by omega)) (fun b => ho.2.1 _ _ (by omega)) a7, a8, (hne 25 (by decide) (by decide) (by decide)).trans a9, (hne 26 (by decide) (by decide) (by decide)).trans a10, a11, fun j hj => ?_⟩
  rw [ho.1 138 _ (by omega), ho.2.1 137 _ (by omega)]
  exact a12 j hj
theorem jg_jud (h : jh_g f B fs sc (k + 1) S) (hk : k < 4000) (h1 : S.1 152 k = 1) (h2 : S.1 153 k = Int32.ofNat y) (ho : fn_Mo_onJudge (Int32.ofNat y) (wd_i S 135 35 (Int32.ofNat k)) = some S1) : jg_go 1 S S1 := jg_1 (fun F => by rw [jg_pop h hk, if_pos h1, h2]) ho
/-- a name is told -/
theorem jg_tell {s : Nat} {v : Int64} (h : jh_g f B fs sc (k + 1) S) (hk : k < 4000) (h1 : S.1 152 k = 3) (h2 : S.1 153 k = Int32.ofNat y) (hy : y < 15010) (h3 : S.1 146 y = Int32.ofNat s) (hs : s < 16) (h4 : S.2.1 142 (16 * f + s) = v) (hl : sc.length < 16) : ∃ S', jg_go 1 S S' ∧ jh_g f B fs ((v, s) :: sc) k S' ∧ of_f (fun a b => (a = 135 ∧ (b = 35 ∨ b = 40)) ∨ (a = 156 ∧ b = sc.length)) S S' := by
  have e : ∀ F, fn_Mo_judge_62 (F + 1) S = fn_Mo_judge_62 F (wd_i (wd_i (wd_i S 135 35 (Int32.ofNat k)) 156 sc.length (Int32.ofNat s)) 135 40 (Int32.ofNat (sc.length + 1))) := fun F => by
    rw [jg_pop h hk, if_neg (by rw [h1]; decide), if_pos h1, h2, if_neg (ms_in hy (by decide)), if_neg (ms_in hl (by decide)), im_t (show sc.length < 2147483648 by omega), im_t (show y < 2147483648 by omega), h3]
  obtain ⟨a1, a2, a3, a4, a5, a6, a7, a8, a9, a10, a11, a12⟩ := h
  generalize hS : wd_i (wd_i (wd_i S 135 35 (Int32.ofNat k)) 156 sc.length (Int32.ofNat s)) 135 40 (Int32.ofNat (sc.length + 1)) = S2 at e
  have o2 : of_f (fun a b => (a = 135 ∧ (b = 35 ∨ b = 40)) ∨ (a = 156 ∧ b = sc.length)) S S2 := by
    rw [← hS]
    exact of_i (by omega) (of_i (by omega) (of_i (by omega) of_refl))
  have hne : ∀ b, b ≠ 35 → b ≠ 40 → S2.1 135 b = S.1 135 b := fun b h1 h2 => o2.1 _ _ (by omega)
  refine ⟨S2, e, ⟨(hne 9 (by decide) (by decide)).trans a1, (hne 31 (by decide) (by decide)).trans a2, a3, ?_, ?_, hl, ⟨?_, hs, ?_, js_o sc (fun b hb => o2.1 _ _ (by omega)) (fun b => o2.2.1 _ _ (by omega)) a7⟩, a8, (hne 25 (by decide) (by decide)).trans a9, (hne 26 (by decide) (by decide)).trans a10, a11, fun j hj => ?_⟩, o2⟩
  · rw [← hS, fr_ne (by omega), fr_ne (by omega), fr_eq]
  · rw [← hS, fr_eq]; rfl
  · rw [← hS, fr_ne (by omega), fr_eq]
  · rw [o2.2.1 142 _ (by omega)]; exact h4
  · rw [o2.1 138 _ (by omega), o2.2.1 137 _ (by omega)]
    exact a12 j hj
/-- a name is shut -/
theorem jg_shut {q : Int64 × Nat} (h : jh_g f B fs (q :: sc) (k + 1) S) (hk : k < 4000) (h1 : S.1 152 k = 4) : ∃ S', jg_go 1 S S' ∧ jh_g f B fs sc k S' ∧ of_f (fun a b => a = 135 ∧ (b = 35 ∨ b = 40)) S S' := by
  have e : ∀ F, fn_Mo_judge_62 (F + 1) S = fn_Mo_judge_62 F (wd_i (wd_i S 135 35 (Int32.ofNat k)) 135 40 (Int32.ofNat sc.length)) := fun F => by
    rw [jg_pop h hk, if_neg (by rw [h1]; decide), if_neg (by rw [h1]; decide)]
    show _ = _
    rw [show Int32.ofNat (q :: sc).length - 1 = Int32.ofNat sc.length from im_p _]
  obtain ⟨a1, a2, a3, a4, a5, a6, a7, a8, a9, a10, a11, a12⟩ := h
  have a6 : sc.length + 1 ≤ 16 := a6
  generalize hS : wd_i (wd_i S 135 35 (Int32.ofNat k)) 135 40 (Int32.ofNat sc.length) = S2 at e
  have o2 : of_f (fun a b => a = 135 ∧ (b = 35 ∨ b = 40)) S S2 := by
    rw [← hS]
    exact of_i (by omega) (of_i (by omega) of_refl)
  have hne : ∀ b, b ≠ 35 → b ≠ 40 → S2.1 135 b = S.1 135 b := fun b h1 h2 => o2.1 _ _ (by omega)
  refine ⟨S2, e, ⟨(hne 9 (by decide) (by decide)).trans a1, (hne 31 (by decide) (by decide)).trans a2, a3, ?_, ?_, by omega, js_o sc (fun b hb => o2.1 _ _ (by omega)) (fun b => o2.2.1 _ _ (by omega)) a7.2.2.2, a8, (hne 25 (by decide) (by decide)).trans a9, (hne 26 (by decide) (by decide)).trans a10, a11, fun j hj => ?_⟩, o2⟩
  · rw [← hS, fr_ne (by omega), fr_eq]
  · rw [← hS, fr_eq]
  · rw [o2.1 138 _ (by omega), o2.2.1 137 _ (by omega)]
    exact a12 j hj
/-- what is done to one tree leaves the others -/
theorem jr_o {lo' hi' al ah : Nat} {s : Nat} (ho : of_f (jW k s lo hi) S S') (h : hi' ≤ lo ∨ hi ≤ lo') : mr_g f lo' hi' al ah 0 16 S S' := by
  refine ⟨fun x x1 x2 => ⟨ho.1 _ _ ?_, ho.1 _ _ ?_, ho.1 _ _ ?_, ho.1 _ _ ?_, ho.1 _ _ ?_, ho.2.1 _ _ ?_⟩, fun x _ _ => ho.1 _ _ ?_, fun x _ _ => ho.2.1 _ _ ?_⟩ <;> unfold jW <;> omega
theorem jr_p {lo' hi' al ah t : Nat} (ho : of_f (fun a b => (a = 135 ∧ (b = 35 ∨ b = 40)) ∨ (a = 152 ∧ k ≤ b) ∨ (a = 153 ∧ k ≤ b) ∨ (a = 156 ∧ t ≤ b)) S S') : mr_g f lo' hi' al ah 0 16 S S' := by
  refine ⟨fun x x1 x2 => ⟨ho.1 _ _ ?_, ho.1 _ _ ?_, ho.1 _ _ ?_, ho.1 _ _ ?_, ho.1 _ _ ?_, ho.2.1 _ _ ?_⟩, fun x _ _ => ho.1 _ _ ?_, fun x _ _ => ho.2.1 _ _ ?_⟩ <;> omega
theorem jm_o {lo' hi' al ah : Nat} {s : Nat} (ho : of_f (jW k s lo hi) S S') (h : hi' ≤ lo ∨ hi ≤ lo') : mj_g lo' hi' al ah S S' := by
  refine ⟨fun x x1 x2 => ⟨ho.1 _ _ ?_, ho.1 _ _ ?_, ho.1 _ _ ?_, ho.1 _ _ ?_⟩, fun x _ _ => ho.1 _ _ ?_⟩ <;> unfold jW <;> omega
theorem jm_p {lo' hi' al ah t : Nat} (ho : of_f (fun a b => (a = 135 ∧ (b = 35 ∨ b = 40)) ∨ (a = 152 ∧ k ≤ b) ∨ (a = 153 ∧ k ≤ b) ∨ (a = 156 ∧ t ≤ b)) S S') : mj_g lo' hi' al ah S S' := by
  refine ⟨fun x x1 x2 => ⟨ho.1 _ _ ?_, ho.1 _ _ ?_, ho.1 _ _ ?_, ho.1 _ _ ?_⟩, fun x _ _ => ho.1 _ _ ?_⟩ <;> omega
end Jq
end
