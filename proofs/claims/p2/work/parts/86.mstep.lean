/-! The reference: names of lets, parts that are kept, the end of an E. -/
section Me
variable {T : Nat → Int32} {H n f r d m t k u c l w i : Nat} {S S' S1 : wd_S} {e : ps_E}
theorem me_begins (hm : mt_g T n i S) : fn_Mo_begins S = some (if tk_K T n i = 3 ∨ tk_K T n i = 4 ∨ tk_K T n i = 7 ∨ tk_K T n i = 1 ∨ tk_K T n i = 2 ∨ tk_K T n i = 15 then 1 else 0, S) := by
  have k3 : S.1 135 4 = 5 ↔ tk_K T n i = 3 := ma_tok (kk := 3) hm (by decide)
  have k4 : S.1 135 4 = 2 ↔ tk_K T n i = 4 := ma_tok (kk := 4) hm (by decide)
  have k1 : S.1 135 4 = 11 ↔ tk_K T n i = 1 := ma_tok (kk := 1) hm (by decide)
  have k7 : S.1 135 4 = 20 ↔ tk_K T n i = 7 := ma_tok (kk := 7) hm (by decide)
  have k2 : S.1 135 4 = 10 ↔ tk_K T n i = 2 := ma_tok (kk := 2) hm (by decide)
  have k15 : S.1 135 4 = 14 ↔ tk_K T n i = 15 := ma_tok (kk := 15) hm (by decide)
  unfold fn_Mo_begins fn_Mo_begins_52 fn_Mo_begins_57
  rw [if_pos fo_b1, if_pos fo_b0]
  simp only [k3, k4, k1, k7, k2, k15]
  by_cases h3 : tk_K T n i = 3
  · simp [h3]
  · by_cases h4 : tk_K T n i = 4
    · simp [h4]
    · by_cases h1 : tk_K T n i = 1
      · simp [h1]
      · by_cases h7 : tk_K T n i = 7
        · simp [h7]
        · by_cases h2 : tk_K T n i = 2
          · simp [h2]
          · by_cases h15 : tk_K T n i = 15
            · simp [h15]
            · simp [h3, h4, h1, h7, h2, h15]
def me_W (f m a b : Nat) : Prop := nx_W a b ∨ (a = 139 ∧ b = f) ∨ (a = 142 ∧ b = 16 * f + m ∧ m < 16)
theorem me_name (h8 : n ≤ 8000) (hm : mh_g T n f m t k u c l w i S) : ∃ x S', fn_Mo_name 0 S = some (x, S') ∧ of_f (me_W f m) S S' ∧ match ps_new (tk_K T n) false (decide (16 ≤ m)) i with
    | .error e => mt_e T n e S'
    | .ok j => x = Int32.ofNat m ∧ mh_g T n f (m + 1) t k u c l w j S' ∧ S'.2.1 142 (16 * f + m) = tk_V T n i := by
  have hf := hm.2.2.1
  have e31 := hm.2.1
  have e139 := hm.2.2.2.1
  have hm16 := hm.2.2.2.2.1
  have k2 : S.1 135 4 = 10 ↔ tk_K T n i = 2 := ma_tok (kk := 2) hm.1 (by decide)
  have h25 : ∀ S1 : wd_S, S1.1 135 31 = Int32.ofNat f → fn_Mo_name_25 0 S1 = fn_Mo_name_88 0 S1 := by
    intro S1 h31
    unfold fn_Mo_name_25
    rw [show wd_F = 999999 + 1 from rfl, fn_Mo_name_27, h31, if_neg (ms_in hf (by decide)), if_pos rfl, ite_self]
  have hbad : ∀ S1 : wd_S, ¬S1.1 135 9 = 0 → fn_Mo_name_136 S1 = some (0, S1) := by
    intro S1 h9
    unfold fn_Mo_name_136
    rw [if_neg h9]
  unfold fn_Mo_name ps_new
  rw [if_pos hm.1.2.2.1, if_neg (show ¬(tk_K T n i = 2 ∧ false = true) from fun z => by cases z.2)]
  by_cases hk : tk_K T n i = 2
  · rw [if_pos (k2.mpr hk), h25 S e31]
    unfold fn_Mo_name_88 fn_Mo_name_112
    rw [if_pos hm.1.2.2.1, if_pos rfl, e31, if_neg (ms_in hf (by decide)), im_t (by omega), e139]
    by_cases h16 : 16 ≤ m
    · have em : m = 16 := by omega
      rw [if_pos (by rw [em]; rfl), if_pos ⟨hk, decide_eq_true h16⟩]
      unfold fn_Mo_name_126
      obtain ⟨S2, e2, o2, r2⟩ := mt_stop (x := 6) (by decide) hm.1
      rw [e2, wd_d_s, hbad S2 (by rw [r2.2.1]; exact (show ¬(6 : Int32) = 0 by decide))]
      exact ⟨_, _, rfl, of_mono (fun a b z => Or.inl z) o2, r2⟩
    · rw [if_neg (fun z => h16 (by have := (im_eq (m := m) (n := 16) (by omega) (by omega)).mp z; omega)), if_neg (fun z => h16 (of_decide_eq_true z.2))]
      unfold fn_Mo_name_136
      have ei : (16 : Int32) * Int32.ofNat f + Int32.ofNat m = Int32.ofNat (16 * f + m) := by
        rw [show (16 : Int32) = Int32.ofNat 16 from rfl, ← Int32.ofNat_mul, ← Int32.ofNat_add]
      have hin96 := ms_in hf (show 96 < 2147483648 by decide)
      rw [if_pos hm.1.2.2.1, e31, if_neg hin96, im_t (by omega), e139, ei, if_neg (ms_in (show 16 * f + m < 1536 by omega) (by decide)), im_t (by omega)]
      simp only [wd_b]
      have g31 : (wd_l S 142 (16 * f + m) (S.2.1 135 7)).1 135 31 = Int32.ofNat f := e31
      have g139 : (wd_l S 142 (16 * f + m) (S.2.1 135 7)).1 139 f = Int32.ofNat m := e139
      rw [g31, if_neg hin96, if_neg hin96, im_t (by omega), g139, im_s]
      generalize hS3 : wd_i (wd_l S 142 (16 * f + m) (S.2.1 135 7)) 139 f (Int32.ofNat (m + 1)) = S3
      have o3 : of_f (fun a b => (a = 139 ∧ b = f) ∨ (a = 142 ∧ b = 16 * f + m)) S S3 := by
        rw [← hS3]
        exact of_i (Or.inl ⟨rfl, rfl⟩) (of_l (Or.inr ⟨rfl, rfl⟩) of_refl)
      have t3 : mt_g T n i S3 := mt_g_o hm.1 (fun a ha => by rw [ha]; exact funext (fun b => o3.1 _ _ (by omega))) (fun b hb => o3.1 _ _ (by omega)) (o3.2.1 _ _ (by omega))
      have m3 : mh_g T n f (m + 1) t k u c l w i S3 := by
        obtain ⟨a1, a2, a3, a4, a5, a6, a7, a8, a9, a10, a11⟩ := hm
        have hne : ∀ b, S3.1 135 b = S.1 135 b := fun b => o3.1 _ _ (by omega)
        exact ⟨t3, (hne 31).trans a2, a3, by rw [← hS3, fr_eq], by omega, (hne 35).trans a6, (hne 37).trans a7, (hne 30).trans a8, (hne 27).trans a9, (hne 28).trans a10, (hne 38).trans a11⟩
      obtain ⟨S4, f4, o4, r4⟩ := mt_pass h8 t3 (by rw [hk]; decide)
      rw [hk] at r4
      rw [f4, wd_d_s]
      refine ⟨_, S4, rfl, of_trans (of_mono (fun a b z => by rcases z with z | z; exact Or.inr (Or.inl z); exact Or.inr (Or.inr ⟨z.1, z.2, by omega⟩)) o3) (of_mono (fun a b z => Or.inl z) o4), ?_⟩
      cases q : ps_take (tk_K T n) 2 i with
      | error e => rw [q] at r4; exact r4
      | ok j =>
        rw [q] at r4
        refine ⟨rfl, mh_nx o4 m3 r4, ?_⟩
        rw [o4.2.1 142 _ (by unfold nx_W; omega), ← hS3]
        show (wd_l S 142 (16 * f + m) (S.2.1 135 7)).2.1 142 (16 * f + m) = _
        rw [fr_l1, if_pos ⟨rfl, rfl⟩]
        exact hm.1.2.2.2.2.2.2.2.2.2.2.1 hk
  · rw [if_neg (fun z => hk (k2.mp z)), if_neg (fun z => hk z.1)]
    obtain ⟨S2, e2, o2, r2⟩ := mt_stop (x := 2) (by decide) hm.1
    have h9 : ¬S2.1 135 9 = 0 := by rw [r2.2.1]; exact (show ¬(2 : Int32) = 0 by decide)
    have h88 : fn_Mo_name_88 0 S2 = some (0, S2) := by
      unfold fn_Mo_name_88
      rw [if_neg h9, hbad S2 h9]
    rw [e2, wd_d_s, h25 S2 (by rw [o2.1 135 31 (by unfold nx_W; omega)]; exact e31), h88]
    refine ⟨_, _, rfl, of_mono (fun a b z => Or.inl z) o2, ?_⟩
    unfold ps_take
    rw [if_neg hk]
    exact r2
/-- a part is kept in its node -/
theorem me_part {A x z : Nat} {s : Int32} (hs : (s = 15 ∧ A = 144) ∨ (s = 16 ∧ A = 145) ∨ (s = 17 ∧ A = 146)) (hm : mh_g T n f m (t + 1) (k + 1) u c l w i S) (ht : t < 4000) (hk : k < 1600) (hx : x < 15010) (h1 : S.1 152 t = s) (h2 : S.1 153 t = Int32.ofNat x) (h3 : S.1 155 k = Int32.ofNat z) : ∃ S', mp_go 1 S S' ∧ mh_g T n f m t k u c l w i S' ∧ S'.1 A x = Int32.ofNat z ∧ of_f (fun a b => (a = 135 ∧ (b = 35 ∨ b = 37)) ∨ (a = A ∧ b = x)) S S' := by
  have hp := mh_pop hm
  obtain ⟨S2, f2, m2, o2⟩ := mh_last hp hk
  have ez : (wd_i S 135 35 (Int32.ofNat t)).1 155 k = Int32.ofNat z := by rw [fr_ne (by omega)]; exact h3
  rw [ez] at f2
  have hA : 144 ≤ A ∧ A ≤ 146 := by omega
  have o3 : of_f (fun a b => a = A ∧ b = x) S2 (wd_i S2 A x (Int32.ofNat z)) := of_i ⟨rfl, rfl⟩ of_refl
  have m3 : mh_g T n f m t k u c l w i (wd_i S2 A x (Int32.ofNat z)) := mh_w o3 (fun a b z => by omega) m2
  have hin := ms_in hx (show 15010 < 2147483648 by decide)
  have hcode : fn_Mo_onRest s (Int32.ofNat x) (wd_i S 135 35 (Int32.ofNat t)) = some (wd_i S2 A x (Int32.ofNat z)) := by
    unfold fn_Mo_onRest fn_Mo_onRest_261
    simp only [wd_b]
    rcases hs with ⟨rfl, rfl⟩ | ⟨rfl, rfl⟩ | ⟨rfl, rfl⟩
    · rw [if_neg (by decide), if_neg (by decide), if_pos rfl, f2, wd_c_s, if_neg hin, im_t (by omega)]
    · rw [if_neg (by decide), if_neg (by decide), if_neg (by decide), if_pos rfl, f2, wd_c_s, if_neg hin, im_t (by omega)]
    · rw [if_neg (by decide), if_neg (by decide), if_neg (by decide), if_neg (by decide), if_pos rfl, f2, wd_c_s, if_neg hin, im_t (by omega)]
  refine ⟨_, mp_g1 (fun F => by
    rw [mp_pop hm ht F, h1, h2, if_neg (by rcases hs with ⟨z, -⟩ | ⟨z, -⟩ | ⟨z, -⟩ <;> rw [z] <;> decide), if_neg (by rcases hs with ⟨z, -⟩ | ⟨z, -⟩ | ⟨z, -⟩ <;> rw [z] <;> decide), if_pos (by rcases hs with ⟨z, -⟩ | ⟨z, -⟩ | ⟨z, -⟩ <;> rw [z] <;> decide)]) hcode, m3, fr_eq, ?_⟩
  exact of_trans (of_i (by omega) of_refl) (of_trans (of_mono (fun a b z => by unfold mw_37 at z; omega) o2) (of_mono (fun a b z => by omega) o3))
/-- a node is kept, and the E ends -/
theorem me_put {x : Nat} (hm : mh_g T n f m (t + 1 + 1) k u c l (w + 1) i S) (ht : t + 1 < 4000) (hk : k < 1600) (h1 : S.1 152 (t + 1) = 18) (h2 : S.1 153 (t + 1) = Int32.ofNat x) (h3 : S.1 152 t = 5) : ∃ S', mp_go 2 S S' ∧ mh_g T n f m t (k + 1) u c l w i S' ∧ S'.1 155 k = Int32.ofNat x ∧ of_f (fun a b => (a = 135 ∧ (b = 35 ∨ b = 37 ∨ b = 38)) ∨ (a = 155 ∧ b = k)) S S' := by
  have hp := mh_pop hm
  obtain ⟨S2, f2, m2, a2, o2⟩ := mh_keep (x := Int32.ofNat x) hp hk
  have hcode : fn_Mo_onRest 18 (Int32.ofNat x) (wd_i S 135 35 (Int32.ofNat (t + 1))) = some S2 := by
    unfold fn_Mo_onRest fn_Mo_onRest_261
    rw [if_neg (by decide), if_neg (by decide), if_neg (by decide), if_neg (by decide), if_neg (by decide), if_pos rfl, f2, wd_d_s]
  have G1 : mp_go 1 S S2 := mp_g1 (fun F => by rw [mp_pop hm ht F, h1, h2, if_neg (by decide), if_neg (by decide), if_pos (by decide)]) hcode
  have e5 : S2.1 152 t = 5 := by rw [o2.1 152 t (by unfold mw_k; omega), fr_ne (by omega)]; exact h3
  have hp2 := mh_pop m2
  have e38 := hp2.2.2.2.2.2.2.2.2.2.2
  have o3 : of_f (fun a b => a = 135 ∧ b = 38) (wd_i S2 135 35 (Int32.ofNat t)) (wd_i (wd_i S2 135 35 (Int32.ofNat t)) 135 38 (Int32.ofNat w)) := of_i ⟨rfl, rfl⟩ of_refl
  have G2 : mp_go 1 S2 (wd_i (wd_i S2 135 35 (Int32.ofNat t)) 135 38 (Int32.ofNat w)) := mp_g1 (o := fn_Mo_onSum 5 (S2.1 153 t) (wd_i S2 135 35 (Int32.ofNat t))) (fun F => by rw [mp_pop m2 (by omega) F, e5, if_neg (by decide), if_neg (by decide), if_neg (by decide)]) (by
    unfold fn_Mo_onSum fn_Mo_onSum_248
    rw [if_pos rfl]
    simp only [wd_b]
    rw [e38, im_p])
  refine ⟨_, mp_got G1 G2, ?_, ?_, ?_⟩
  · have hne : ∀ b, b ≠ 38 → (wd_i (wd_i S2 135 35 (Int32.ofNat t)) 135 38 (Int32.ofNat w)).1 135 b = (wd_i S2 135 35 (Int32.ofNat t)).1 135 b := fun b hb => fr_ne (by omega)
    refine mh_u hp2 (funext (fun b => fr_ne (by omega))) (fun k hk => hne k (by omega)) rfl (fr_ne (by omega)) ?_ ?_ ?_ ?_ ?_ fr_eq
    · rw [hne 35 (by decide)]; exact hp2.2.2.2.2.2.1
    · rw [hne 37 (by decide)]; exact hp2.2.2.2.2.2.2.1
    · rw [hne 30 (by decide)]; exact hp2.2.2.2.2.2.2.2.1
    · rw [hne 27 (by decide)]; exact hp2.2.2.2.2.2.2.2.2.1
    · rw [hne 28 (by decide)]; exact hp2.2.2.2.2.2.2.2.2.2.1
  · rw [fr_ne (by omega), fr_ne (by omega)]; exact a2
  · exact of_trans (of_i (by omega) of_refl) (of_trans (of_mono (fun a b z => by unfold mw_k at z; omega) o2) (of_i (by omega) (of_i (by omega) of_refl)))
/-- the E ends -/
theorem me_end (hm : mh_g T n f m (t + 1) k u c l (w + 1) i S) (ht : t < 4000) (h3 : S.1 152 t = 5) : ∃ S', mp_go 1 S S' ∧ mh_g T n f m t k u c l w i S' ∧ of_f (fun a b => a = 135 ∧ (b = 35 ∨ b = 38)) S S' := by
  have hp2 := mh_pop hm
  have e38 := hp2.2.2.2.2.2.2.2.2.2.2
  have G2 : mp_go 1 S (wd_i (wd_i S 135 35 (Int32.ofNat t)) 135 38 (Int32.ofNat w)) := mp_g1 (o := fn_Mo_onSum 5 (S.1 153 t) (wd_i S 135 35 (Int32.ofNat t))) (fun F => by rw [mp_pop hm ht F, h3, if_neg (by decide), if_neg (by decide), if_neg (by decide)]) (by
    unfold fn_Mo_onSum fn_Mo_onSum_248
    rw [if_pos rfl]
    simp only [wd_b]
    rw [e38, im_p])
  refine ⟨_, G2, ?_, of_i (by omega) (of_i (by omega) of_refl)⟩
  have hne : ∀ b, b ≠ 38 → (wd_i (wd_i S 135 35 (Int32.ofNat t)) 135 38 (Int32.ofNat w)).1 135 b = (wd_i S 135 35 (Int32.ofNat t)).1 135 b := fun b hb => fr_ne (by omega)
  refine mh_u hp2 (funext (fun b => fr_ne (by omega))) (fun k hk => hne k (by omega)) rfl (fr_ne (by omega)) ?_ ?_ ?_ ?_ ?_ fr_eq
  · rw [hne 35 (by decide)]; exact hp2.2.2.2.2.2.1
  · rw [hne 37 (by decide)]; exact hp2.2.2.2.2.2.2.1
  · rw [hne 30 (by decide)]; exact hp2.2.2.2.2.2.2.2.1
  · rw [hne 27 (by decide)]; exact hp2.2.2.2.2.2.2.2.2.1
  · rw [hne 28 (by decide)]; exact hp2.2.2.2.2.2.2.2.2.2.1
end Me
