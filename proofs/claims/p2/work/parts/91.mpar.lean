/-! The reference: params. -/
def mq_n (f : Nat) : List (Int64 × Nat) → wd_S → Prop
  | [], _ => True
  | q :: r, S => S.2.1 142 (16 * f + r.length) = q.1 ∧ mq_n f r S
/-- the head of a function with p params so far -/
def mq_h (T : Nat → Int32) (n f p i : Nat) (S : wd_S) : Prop := mt_g T n i S ∧ S.1 135 31 = Int32.ofNat f ∧ f < 96 ∧ S.1 138 f = Int32.ofNat p ∧ S.1 139 f = Int32.ofNat p
def mq_W (f a b : Nat) : Prop := nx_W a b ∨ (a = 138 ∧ b = f) ∨ (a = 139 ∧ b = f) ∨ (a = 142 ∧ 16 * f ≤ b ∧ b < 16 * f + 16)
section Mq
variable {T : Nat → Int32} {n f p i : Nat} {S S' : wd_S} {sc : List (Int64 × Nat)}
theorem mq_n_o : ∀ (sc : List (Int64 × Nat)), (∀ b, b < sc.length → S'.2.1 142 (16 * f + b) = S.2.1 142 (16 * f + b)) → mq_n f sc S → mq_n f sc S' := by
  intro sc
  induction sc with
  | nil => intro _ _; trivial
  | cons q r ih =>
    intro h hs
    exact ⟨(h r.length (Nat.lt_succ_self _)).trans hs.1, ih (fun b hb => h b (Nat.lt_succ_of_lt hb)) hs.2⟩
/-- is there such a name -/
theorem mq_look {x : Int64} : ∀ (sc : List (Int64 × Nat)), mq_n f sc S → ((ps_look x sc).isSome = true ↔ ∃ b, b < sc.length ∧ S.2.1 142 (16 * f + b) = x) := by
  intro sc
  induction sc with
  | nil => intro _; exact ⟨fun h => (by cases h), fun ⟨b, hb, _⟩ => absurd hb (Nat.not_lt_zero _)⟩
  | cons q r ih =>
    intro hs
    have ih := ih hs.2
    by_cases hq : q.1 = x
    · rw [show ps_look x (q :: r) = some q.2 from if_pos hq]
      exact ⟨fun _ => ⟨r.length, Nat.lt_succ_self _, hs.1.trans hq⟩, fun _ => rfl⟩
    · rw [show ps_look x (q :: r) = ps_look x r from if_neg hq, ih]
      constructor
      · rintro ⟨b, hb, e⟩
        exact ⟨b, Nat.lt_succ_of_lt hb, e⟩
      · rintro ⟨b, hb, e⟩
        have hb : b < r.length + 1 := hb
        rcases Nat.lt_or_ge b r.length with h | h
        · exact ⟨b, h, e⟩
        · have : b = r.length := by omega
          rw [this, hs.1] at e
          exact absurd e hq
theorem mq_bad {x : Int32} (h9 : ¬S.1 135 9 = 0) : fn_Mo_name_88 x S = some (0, S) := by
  unfold fn_Mo_name_88 fn_Mo_name_136
  rw [if_neg h9, if_neg h9]
theorem mq_27b {F : Nat} {x y : Int32} (h31 : S.1 135 31 = Int32.ofNat f) (hf : f < 96) (h9 : ¬S.1 135 9 = 0) : fn_Mo_name_27 (F + 1) x y S = some (0, S) := by
  rw [fn_Mo_name_27, h31, if_neg (ms_in hf (by decide)), if_neg h9, ite_self, ite_self, mq_bad h9]
theorem mq_27 (hm : mq_h T n f p i S) (hp : p ≤ 4) (hk : tk_K T n i = 2) : ∀ (q j F : Nat), j + q = p → q + 1 < F → ((∀ b, j ≤ b → b < p → ¬S.2.1 142 (16 * f + b) = tk_V T n i) ∧ fn_Mo_name_27 F 1 (Int32.ofNat j) S = fn_Mo_name_88 1 S) ∨ ((∃ b, b < p ∧ S.2.1 142 (16 * f + b) = tk_V T n i) ∧ ∃ S', fn_Mo_name_27 F 1 (Int32.ofNat j) S = some (0, S') ∧ of_f nx_W S S' ∧ mt_e T n (3, i) S') := by
  have hf := hm.2.2.1
  intro q
  induction q with
  | zero =>
    intro j F hj hF
    obtain ⟨F, rfl⟩ : ∃ g, F = g + 1 := ⟨F - 1, by omega⟩
    refine Or.inl ⟨fun b h1 h2 => by omega, ?_⟩
    rw [fn_Mo_name_27, hm.2.1, if_neg (ms_in hf (by decide)), im_t (by omega), hm.2.2.2.1, if_neg (fun z => by have := (im_lt (by omega) (by omega)).mp z; omega)]
  | succ q ih =>
    intro j F hj hF
    obtain ⟨F, rfl⟩ : ∃ g, F = g + 1 := ⟨F - 1, by omega⟩
    have ei : (16 : Int32) * Int32.ofNat f + Int32.ofNat j = Int32.ofNat (16 * f + j) := by
      rw [show (16 : Int32) = Int32.ofNat 16 from rfl, ← Int32.ofNat_mul, ← Int32.ofNat_add]
    have ekey : S.2.1 135 7 = tk_V T n i := hm.1.2.2.2.2.2.2.2.2.2.2.1 hk
    rw [fn_Mo_name_27, hm.2.1, if_neg (ms_in hf (by decide)), im_t (by omega), hm.2.2.2.1, if_pos ((im_lt (by omega) (by omega)).mpr (by omega)), if_neg (by decide), if_pos hm.1.2.2.1, ei, if_neg (ms_in (show 16 * f + j < 1536 by omega) (by decide)), im_t (by omega), ekey]
    unfold fn_Mo_name_82
    rw [im_s]
    by_cases he : S.2.1 142 (16 * f + j) = tk_V T n i
    · rw [if_pos (sm_eq.mpr he)]
      obtain ⟨S2, e2, o2, r2⟩ := mt_stop (x := 3) (by decide) hm.1
      obtain ⟨F, rfl⟩ : ∃ g, F = g + 1 := ⟨F - 1, by omega⟩
      rw [e2, wd_d_s, mq_27b (f := f) (by rw [o2.1 135 31 (by unfold nx_W; omega)]; exact hm.2.1) hf (by rw [r2.2.1]; exact (show ¬(3 : Int32) = 0 by decide))]
      exact Or.inr ⟨⟨j, by omega, he⟩, S2, rfl, o2, r2⟩
    · rw [if_neg (fun z => he (sm_eq.mp z))]
      rcases ih (j + 1) F (by omega) (by omega) with ⟨h1, h2⟩ | h
      · refine Or.inl ⟨fun b b1 b2 => ?_, h2⟩
        by_cases hb : b = j
        · rw [hb]; exact he
        · exact h1 b (by omega) b2
      · exact Or.inr h
theorem mq_name (h8 : n ≤ 8000) (hm : mq_h T n f sc.length i S) (hp : sc.length ≤ 4) (hn : mq_n f sc S) : ∃ x S', fn_Mo_name 1 S = some (x, S') ∧ of_f (mq_W f) S S' ∧ match ps_new (tk_K T n) (ps_look (tk_V T n i) sc).isSome (decide (4 ≤ sc.length)) i with
    | .error e => mt_e T n e S'
    | .ok j => mt_g T n j S' ∧ S'.1 139 f = Int32.ofNat (sc.length + 1) ∧ S'.2.1 142 (16 * f + sc.length) = tk_V T n i ∧ (∀ b, b < sc.length → S'.2.1 142 (16 * f + b) = S.2.1 142 (16 * f + b)) ∧ S'.1 138 f = Int32.ofNat sc.length := by
  have hf := hm.2.2.1
  have k2 : S.1 135 4 = 10 ↔ tk_K T n i = 2 := ma_tok (kk := 2) hm.1 (by decide)
  unfold fn_Mo_name fn_Mo_name_25 ps_new
  rw [if_pos hm.1.2.2.1]
  by_cases hk : tk_K T n i = 2
  · rw [if_pos (k2.mpr hk)]
    rcases mq_27 hm hp hk sc.length 0 wd_F (Nat.zero_add _) (by rw [show wd_F = 1000000 from rfl]; omega) with ⟨h1, h2⟩ | ⟨h1, S2, h2, h3, h4⟩
    · have h2 : fn_Mo_name_27 wd_F 1 0 S = fn_Mo_name_88 1 S := h2
      have hl : ¬(ps_look (tk_V T n i) sc).isSome = true := fun z => by
        obtain ⟨b, hb, e⟩ := (mq_look sc hn).mp z
        exact h1 b (Nat.zero_le _) hb e
      rw [h2, if_neg (show ¬(tk_K T n i = 2 ∧ (ps_look (tk_V T n i) sc).isSome = true) from fun z => hl z.2)]
      unfold fn_Mo_name_88
      rw [if_pos hm.1.2.2.1, if_neg (by decide), hm.2.1, if_neg (ms_in hf (by decide)), im_t (by omega), hm.2.2.2.1]
      by_cases h4 : 4 ≤ sc.length
      · have e4 : sc.length = 4 := by omega
        rw [if_pos (by rw [e4]; rfl), if_pos ⟨hk, decide_eq_true h4⟩]
        unfold fn_Mo_name_126 fn_Mo_name_136
        obtain ⟨S2, e2, o2, r2⟩ := mt_stop (x := 6) (by decide) hm.1
        rw [e2, wd_d_s, if_neg (by rw [r2.2.1]; exact (show ¬(6 : Int32) = 0 by decide))]
        exact ⟨_, _, rfl, of_mono (fun a b z => Or.inl z) o2, r2⟩
      · rw [if_neg (fun z => h4 (by have := (im_eq (m := sc.length) (n := 4) (by omega) (by omega)).mp z; omega)), if_neg (fun z => h4 (of_decide_eq_true z.2))]
        unfold fn_Mo_name_112
        rw [hm.2.1, if_neg (ms_in hf (by decide)), im_t (by omega), hm.2.2.2.2, if_neg (fun z => by have := (im_eq (m := sc.length) (n := 16) (by omega) (by omega)).mp z; omega)]
        unfold fn_Mo_name_136
        have ei : (16 : Int32) * Int32.ofNat f + Int32.ofNat sc.length = Int32.ofNat (16 * f + sc.length) := by
          rw [show (16 : Int32) = Int32.ofNat 16 from rfl, ← Int32.ofNat_mul, ← Int32.ofNat_add]
        have hin96 := ms_in hf (show 96 < 2147483648 by decide)
        rw [if_pos hm.1.2.2.1, hm.2.1, if_neg hin96, im_t (by omega), hm.2.2.2.2, ei, if_neg (ms_in (show 16 * f + sc.length < 1536 by omega) (by decide)), im_t (by omega)]
        simp only [wd_b]
        have g31 : (wd_l S 142 (16 * f + sc.length) (S.2.1 135 7)).1 135 31 = Int32.ofNat f := hm.2.1
        have g139 : (wd_l S 142 (16 * f + sc.length) (S.2.1 135 7)).1 139 f = Int32.ofNat sc.length := hm.2.2.2.2
        rw [g31, if_neg hin96, if_neg hin96, im_t (by omega), g139, im_s]
        generalize hS3 : wd_i (wd_l S 142 (16 * f + sc.length) (S.2.1 135 7)) 139 f (Int32.ofNat (sc.length + 1)) = S3
        have o3 : of_f (fun a b => (a = 139 ∧ b = f) ∨ (a = 142 ∧ b = 16 * f + sc.length)) S S3 := by
          rw [← hS3]
          exact of_i (Or.inl ⟨rfl, rfl⟩) (of_l (Or.inr ⟨rfl, rfl⟩) of_refl)
        have t3 : mt_g T n i S3 := mt_g_o hm.1 (fun a ha => by rw [ha]; exact funext (fun b => o3.1 _ _ (by omega))) (fun b hb => o3.1 _ _ (by omega)) (o3.2.1 _ _ (by omega))
        obtain ⟨S4, f4, o4, r4⟩ := mt_pass h8 t3 (by rw [hk]; decide)
        rw [hk] at r4
        rw [f4, wd_d_s]
        refine ⟨_, S4, rfl, of_trans (of_mono (fun a b z => by rcases z with z | z; exact Or.inr (Or.inr (Or.inl z)); exact Or.inr (Or.inr (Or.inr ⟨z.1, by omega, by omega⟩))) o3) (of_mono (fun a b z => Or.inl z) o4), ?_⟩
        cases q : ps_take (tk_K T n) 2 i with
        | error e => rw [q] at r4; exact r4
        | ok j =>
          rw [q] at r4
          refine ⟨r4, ?_, ?_, fun b hb => ?_, ?_⟩
          · rw [o4.1 139 f (by unfold nx_W; omega), ← hS3, fr_eq]
          · rw [o4.2.1 142 _ (by unfold nx_W; omega), ← hS3]
            show (wd_l S 142 (16 * f + sc.length) (S.2.1 135 7)).2.1 142 (16 * f + sc.length) = _
            rw [fr_l1, if_pos ⟨rfl, rfl⟩]
            exact hm.1.2.2.2.2.2.2.2.2.2.2.1 hk
          · rw [o4.2.1 142 _ (by unfold nx_W; omega), o3.2.1 142 _ (by omega)]
          · rw [o4.1 138 f (by unfold nx_W; omega), o3.1 138 f (by omega)]
            exact hm.2.2.2.1
    · have h2 : fn_Mo_name_27 wd_F 1 0 S = some (0, S2) := h2
      rw [h2, if_pos (show tk_K T n i = 2 ∧ (ps_look (tk_V T n i) sc).isSome = true from ⟨hk, (mq_look sc hn).mpr h1⟩)]
      exact ⟨_, _, rfl, of_mono (fun a b z => Or.inl z) h3, h4⟩
  · rw [if_neg (fun z => hk (k2.mp z)), if_neg (fun z => hk z.1), if_neg (fun z => hk z.1)]
    obtain ⟨S2, e2, o2, r2⟩ := mt_stop (x := 2) (by decide) hm.1
    have h9 : ¬S2.1 135 9 = 0 := by rw [r2.2.1]; exact (show ¬(2 : Int32) = 0 by decide)
    rw [e2, wd_d_s, show wd_F = 999999 + 1 from rfl, mq_27b (f := f) (by rw [o2.1 135 31 (by unfold nx_W; omega)]; exact hm.2.1) hf h9]
    refine ⟨_, _, rfl, of_mono (fun a b z => Or.inl z) o2, ?_⟩
    unfold ps_take
    rw [if_neg hk]
    exact r2
end Mq
