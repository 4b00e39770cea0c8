/-! The reference's loop over its tasks: one task at a time. -/
def mh_g (T : Nat → Int32) (n f m t k u c l w i : Nat) (S : wd_S) : Prop := mt_g T n i S ∧ S.1 135 31 = Int32.ofNat f ∧ f < 96 ∧ S.1 139 f = Int32.ofNat m ∧ m ≤ 16 ∧ S.1 135 35 = Int32.ofNat t ∧ S.1 135 37 = Int32.ofNat k ∧ S.1 135 30 = Int32.ofNat u ∧ S.1 135 27 = Int32.ofNat c ∧ S.1 135 28 = Int32.ofNat l ∧ S.1 135 38 = Int32.ofNat w
section Mh
variable {T : Nat → Int32} {H n f m t k u c l w i t' k' u' c' l' w' : Nat} {S S' S1 : wd_S} {x y : Int32} {e : ps_E}
theorem mh_u (h : mh_g T n f m t k u c l w i S) (h1 : S'.1 136 = S.1 136) (h2 : ∀ k, k = 2 ∨ (3 ≤ k ∧ k ≤ 10) ∨ k = 31 → S'.1 135 k = S.1 135 k) (h3 : S'.2.1 135 7 = S.2.1 135 7) (h4 : S'.1 139 f = S.1 139 f) (e35 : S'.1 135 35 = Int32.ofNat t') (e37 : S'.1 135 37 = Int32.ofNat k') (e30 : S'.1 135 30 = Int32.ofNat u') (e27 : S'.1 135 27 = Int32.ofNat c') (e28 : S'.1 135 28 = Int32.ofNat l') (e38 : S'.1 135 38 = Int32.ofNat w') : mh_g T n f m t' k' u' c' l' w' i S' := by
  obtain ⟨a1, a2, a3, a4, a5, -⟩ := h
  refine ⟨mt_g_o a1 (fun a ha => by rw [ha]; exact h1) (fun k hk => h2 k (by omega)) h3, ?_, a3, ?_, a5, e35, e37, e30, e27, e28, e38⟩
  · rw [h2 31 (by omega)]; exact a2
  · rw [h4]; exact a4
/-- nothing but W is written, and that lies elsewhere -/
theorem mh_w {W : Nat → Nat → Prop} (ho : of_f W S S') (hw : ∀ a b, W a b → ¬(a = 136 ∨ a = 139 ∨ (a = 135 ∧ b ≤ 40))) (h : mh_g T n f m t k u c l w i S) : mh_g T n f m t k u c l w i S' := by
  have h5 : ∀ b, b ≤ 40 → S'.1 135 b = S.1 135 b := fun b hb => ho.1 _ _ (fun z => hw _ _ z (Or.inr (Or.inr ⟨rfl, hb⟩)))
  refine mh_u h (funext (fun b => ho.1 _ _ (fun z => hw _ _ z (Or.inl rfl)))) (fun k hk => h5 k (by omega)) (ho.2.1 _ _ (fun z => hw _ _ z (Or.inr (Or.inr ⟨rfl, by decide⟩)))) (ho.1 _ _ (fun z => hw _ _ z (Or.inr (Or.inl rfl)))) ?_ ?_ ?_ ?_ ?_ ?_
  · rw [h5 35 (by decide)]; exact h.2.2.2.2.2.1
  · rw [h5 37 (by decide)]; exact h.2.2.2.2.2.2.1
  · rw [h5 30 (by decide)]; exact h.2.2.2.2.2.2.2.1
  · rw [h5 27 (by decide)]; exact h.2.2.2.2.2.2.2.2.1
  · rw [h5 28 (by decide)]; exact h.2.2.2.2.2.2.2.2.2.1
  · rw [h5 38 (by decide)]; exact h.2.2.2.2.2.2.2.2.2.2
/-- tasks that lie ready from t on -/
def mh_s (t : Nat) (xs : List (Int32 × Int32)) (S : wd_S) : Prop := ∀ j, (hj : j < xs.length) → S.1 152 (t + j) = xs[j].1 ∧ S.1 153 (t + j) = xs[j].2
theorem mh_s_o {xs : List (Int32 × Int32)} (h : ∀ b, b < t + xs.length → S'.1 152 b = S.1 152 b ∧ S'.1 153 b = S.1 153 b) (hs : mh_s t xs S) : mh_s t xs S' := fun j hj => by
  obtain ⟨a1, a2⟩ := h (t + j) (by omega)
  rw [a1, a2]
  exact hs j hj
theorem mh_s_l {xs : List (Int32 × Int32)} {q : Int32 × Int32} (h : mh_s t (xs ++ [q]) S) : mh_s t xs S ∧ S.1 152 (t + xs.length) = q.1 ∧ S.1 153 (t + xs.length) = q.2 := by
  refine ⟨fun j hj => ?_, ?_⟩
  · have := h j (by rw [List.length_append]; omega)
    rw [List.getElem_append_left hj] at this
    exact this
  · have := h xs.length (by rw [List.length_append]; exact Nat.lt_succ_self _)
    rw [List.getElem_append_right (Nat.le_refl _)] at this
    simp only [Nat.sub_self, List.getElem_cons_zero] at this
    exact this
def mw_p (t a b : Nat) : Prop := (a = 152 ∧ b = t) ∨ (a = 153 ∧ b = t) ∨ (a = 135 ∧ b = 35)
theorem mw_p_W {m k u c l : Nat} : ∀ a b, mw_p t a b → mp_W f m t k u c l H a b := by
  rintro a b (h | h | h)
  · exact Or.inr (Or.inr (Or.inr (Or.inr (Or.inr (Or.inr (Or.inl ⟨h.1, by omega⟩))))))
  · exact Or.inr (Or.inr (Or.inr (Or.inr (Or.inr (Or.inr (Or.inr (Or.inl ⟨h.1, by omega⟩)))))))
  · exact Or.inl ⟨h.1, by omega⟩
theorem mh_push {xs : List (Int32 × Int32)} (h : mh_g T n f m (t + xs.length) k u c l w i S) (ht : t + xs.length < 4000) (hs : mh_s t xs S) : ∃ S', fn_Mo_push x y S = some S' ∧ mh_g T n f m (t + (xs ++ [(x, y)]).length) k u c l w i S' ∧ mh_s t (xs ++ [(x, y)]) S' ∧ of_f (mw_p (t + xs.length)) S S' := by
  have h35 := h.2.2.2.2.2.1
  have ol : (xs ++ [(x, y)]).length = xs.length + 1 := by rw [List.length_append]; rfl
  rw [ms_push h35 ht]
  have o1 : of_f (mw_p (t + xs.length)) S (ms_p (t + xs.length) x y S) := of_i (Or.inr (Or.inr ⟨rfl, rfl⟩)) (of_i (Or.inr (Or.inl ⟨rfl, rfl⟩)) (of_i (Or.inl ⟨rfl, rfl⟩) of_refl))
  have hne : ∀ b, b ≠ 35 → (ms_p (t + xs.length) x y S).1 135 b = S.1 135 b := fun b hb => o1.1 _ _ (by unfold mw_p; omega)
  refine ⟨_, rfl, mh_u h (funext (fun b => o1.1 _ _ (by unfold mw_p; omega))) (fun k hk => hne k (by omega)) rfl (o1.1 _ _ (by unfold mw_p; omega)) ?_ ?_ ?_ ?_ ?_ ?_, fun j hj => ?_, o1⟩
  · unfold ms_p
    rw [fr_eq, ol]
    rfl
  · rw [hne 37 (by decide)]; exact h.2.2.2.2.2.2.1
  · rw [hne 30 (by decide)]; exact h.2.2.2.2.2.2.2.1
  · rw [hne 27 (by decide)]; exact h.2.2.2.2.2.2.2.2.1
  · rw [hne 28 (by decide)]; exact h.2.2.2.2.2.2.2.2.2.1
  · rw [hne 38 (by decide)]; exact h.2.2.2.2.2.2.2.2.2.2
  · rw [ol] at hj
    by_cases hj2 : j < xs.length
    · rw [List.getElem_append_left hj2, o1.1 152 (t + j) (by unfold mw_p; omega), o1.1 153 (t + j) (by unfold mw_p; omega)]
      exact hs j hj2
    · have ej : j = xs.length := by omega
      subst ej
      rw [List.getElem_append_right (Nat.le_refl _)]
      simp only [Nat.sub_self, List.getElem_cons_zero]
      unfold ms_p
      refine ⟨?_, ?_⟩
      · rw [fr_ne (by omega), fr_ne (by omega), fr_eq]
      · rw [fr_ne (by omega), fr_eq]
def mw_k (k a b : Nat) : Prop := (a = 155 ∧ b = k) ∨ (a = 135 ∧ b = 37)
theorem mw_k_W {m t u c l : Nat} : ∀ a b, mw_k k a b → mp_W f m t k u c l H a b := by
  rintro a b (h | h)
  · exact Or.inr (Or.inr (Or.inr (Or.inr (Or.inr (Or.inr (Or.inr (Or.inr ⟨h.1, by omega⟩)))))))
  · exact Or.inl ⟨h.1, by omega⟩
theorem mh_keep (h : mh_g T n f m t k u c l w i S) (hk : k < 1600) : ∃ S', fn_Mo_keep x S = some S' ∧ mh_g T n f m t (k + 1) u c l w i S' ∧ S'.1 155 k = x ∧ of_f (mw_k k) S S' := by
  rw [ms_keep h.2.2.2.2.2.2.1 hk]
  have o1 : of_f (mw_k k) S (ms_k k x S) := of_i (Or.inr ⟨rfl, rfl⟩) (of_i (Or.inl ⟨rfl, rfl⟩) of_refl)
  have hne : ∀ b, b ≠ 37 → (ms_k k x S).1 135 b = S.1 135 b := fun b hb => o1.1 _ _ (by unfold mw_k; omega)
  refine ⟨_, rfl, mh_u h (funext (fun b => o1.1 _ _ (by unfold mw_k; omega))) (fun k hk => hne k (by omega)) rfl (o1.1 _ _ (by unfold mw_k; omega)) ?_ ?_ ?_ ?_ ?_ ?_, ?_, o1⟩
  · rw [hne 35 (by decide)]; exact h.2.2.2.2.2.1
  · unfold ms_k; rw [fr_eq]
  · rw [hne 30 (by decide)]; exact h.2.2.2.2.2.2.2.1
  · rw [hne 27 (by decide)]; exact h.2.2.2.2.2.2.2.2.1
  · rw [hne 28 (by decide)]; exact h.2.2.2.2.2.2.2.2.2.1
  · rw [hne 38 (by decide)]; exact h.2.2.2.2.2.2.2.2.2.2
  · unfold ms_k; rw [fr_ne (by omega), fr_eq]
def mw_37 (a b : Nat) : Prop := a = 135 ∧ b = 37
theorem mh_last (h : mh_g T n f m t (k + 1) u c l w i S) (hk : k < 1600) : ∃ S', fn_Mo_last S = some (S.1 155 k, S') ∧ mh_g T n f m t k u c l w i S' ∧ of_f mw_37 S S' := by
  rw [ms_last h.2.2.2.2.2.2.1 hk]
  have o1 : of_f mw_37 S (wd_i S 135 37 (Int32.ofNat k)) := of_i ⟨rfl, rfl⟩ of_refl
  have hne : ∀ b, b ≠ 37 → (wd_i S 135 37 (Int32.ofNat k)).1 135 b = S.1 135 b := fun b hb => fr_ne (by omega)
  refine ⟨_, rfl, mh_u h (funext (fun b => o1.1 _ _ (by unfold mw_37; omega))) (fun k hk => hne k (by omega)) rfl (o1.1 _ _ (by unfold mw_37; omega)) ?_ fr_eq ?_ ?_ ?_ ?_, o1⟩
  · rw [hne 35 (by decide)]; exact h.2.2.2.2.2.1
  · rw [hne 30 (by decide)]; exact h.2.2.2.2.2.2.2.1
  · rw [hne 27 (by decide)]; exact h.2.2.2.2.2.2.2.2.1
  · rw [hne 28 (by decide)]; exact h.2.2.2.2.2.2.2.2.2.1
  · rw [hne 38 (by decide)]; exact h.2.2.2.2.2.2.2.2.2.2
def mw_n (c a b : Nat) : Prop := (a = 143 ∧ b = c) ∨ (a = 147 ∧ b = c) ∨ (a = 135 ∧ b = 27)
theorem mh_node (h : mh_g T n f m t k u c l w i S) (hc : c < 3003) : ∃ S', fn_Mo_node x y S = some (Int32.ofNat c, S') ∧ mh_g T n f m t k u (c + 1) l w i S' ∧ S'.1 143 c = x ∧ S'.1 147 c = y ∧ of_f (mw_n c) S S' := by
  rw [ms_node h.2.2.2.2.2.2.2.2.1 hc]
  have o1 : of_f (mw_n c) S (ms_n c x y S) := of_i (Or.inr (Or.inl ⟨rfl, rfl⟩)) (of_i (Or.inl ⟨rfl, rfl⟩) (of_i (Or.inr (Or.inr ⟨rfl, rfl⟩)) of_refl))
  have hne : ∀ b, b ≠ 27 → (ms_n c x y S).1 135 b = S.1 135 b := fun b hb => o1.1 _ _ (by unfold mw_n; omega)
  refine ⟨_, rfl, mh_u h (funext (fun b => o1.1 _ _ (by unfold mw_n; omega))) (fun k hk => hne k (by omega)) rfl (o1.1 _ _ (by unfold mw_n; omega)) ?_ ?_ ?_ ?_ ?_ ?_, ?_, ?_, o1⟩
  · rw [hne 35 (by decide)]; exact h.2.2.2.2.2.1
  · rw [hne 37 (by decide)]; exact h.2.2.2.2.2.2.1
  · rw [hne 30 (by decide)]; exact h.2.2.2.2.2.2.2.1
  · unfold ms_n; rw [fr_ne (by omega), fr_ne (by omega), fr_eq]
  · rw [hne 28 (by decide)]; exact h.2.2.2.2.2.2.2.2.2.1
  · rw [hne 38 (by decide)]; exact h.2.2.2.2.2.2.2.2.2.2
  · unfold ms_n; rw [fr_ne (by omega), fr_eq]
  · unfold ms_n; rw [fr_eq]
theorem mh_nx (ho : of_f nx_W S S') (h : mh_g T n f m t k u c l w i S) {j : Nat} (hg : mt_g T n j S') : mh_g T n f m t k u c l w j S' := by
  obtain ⟨a1, a2, a3, a4, a5, a6, a7, a8, a9, a10, a11⟩ := h
  refine ⟨hg, ?_, a3, ?_, a5, ?_, ?_, ?_, ?_, ?_, ?_⟩
  · rw [ho.1 135 31 (by unfold nx_W; omega)]; exact a2
  · rw [ho.1 139 f (by unfold nx_W; omega)]; exact a4
  · rw [ho.1 135 35 (by unfold nx_W; omega)]; exact a6
  · rw [ho.1 135 37 (by unfold nx_W; omega)]; exact a7
  · rw [ho.1 135 30 (by unfold nx_W; omega)]; exact a8
  · rw [ho.1 135 27 (by unfold nx_W; omega)]; exact a9
  · rw [ho.1 135 28 (by unfold nx_W; omega)]; exact a10
  · rw [ho.1 135 38 (by unfold nx_W; omega)]; exact a11
theorem nx_W_W {m t k u c l : Nat} : ∀ a b, nx_W a b → mp_W f m t k u c l H a b := fun a b h => Or.inl ⟨h.1, Or.inl h.2⟩
/-- g turns of the loop -/
def mp_go (g : Nat) (S S' : wd_S) : Prop := ∀ F, fn_Mo_parse_21 (F + g) S = fn_Mo_parse_21 F S'
theorem mp_go0 : mp_go 0 S S := fun _ => rfl
theorem mp_got {g g' : Nat} (h1 : mp_go g S S1) (h2 : mp_go g' S1 S') : mp_go (g + g') S S' := fun F => by
  rw [show F + (g + g') = (F + g') + g by omega, h1, h2]
theorem mp_pop (h : mh_g T n f m (t + 1) k u c l w i S) (ht : t < 4000) (F : Nat) : fn_Mo_parse_21 (F + 1) S = if S.1 152 t = 1 then wd_d (fn_Mo_want (S.1 153 t) (wd_i S 135 35 (Int32.ofNat t))) (fn_Mo_parse_21 F) else if S.1 152 t = 4 then wd_d (fn_Mo_onE (wd_i S 135 35 (Int32.ofNat t))) (fn_Mo_parse_21 F) else if 12 < S.1 152 t then wd_d (fn_Mo_onRest (S.1 152 t) (S.1 153 t) (wd_i S 135 35 (Int32.ofNat t))) (fn_Mo_parse_21 F) else wd_d (fn_Mo_onSum (S.1 152 t) (S.1 153 t) (wd_i S 135 35 (Int32.ofNat t))) (fn_Mo_parse_21 F) := by
  have h35 := h.2.2.2.2.2.1
  rw [fn_Mo_parse_21, h35, if_pos (show (0 : Int32) < Int32.ofNat (t + 1) from (im_lt (m := 0) (n := t + 1) (by omega) (by omega)).mpr (by omega)), if_pos h.1.2.2.1]
  unfold fn_Mo_parse_111
  simp only [wd_b]
  rw [show Int32.ofNat (t + 1) - (1 : Int32) = Int32.ofNat t from im_p t, fr_eq, if_neg (ms_in ht (by decide)), if_neg (ms_in ht (by decide)), im_t (by omega), fr_ne (by omega), fr_ne (by omega)]
theorem mh_pop (h : mh_g T n f m (t + 1) k u c l w i S) : mh_g T n f m t k u c l w i (wd_i S 135 35 (Int32.ofNat t)) := by
  refine mh_u h (funext (fun b => fr_ne (by omega))) (fun k hk => fr_ne (by omega)) rfl (fr_ne (by omega)) fr_eq ?_ ?_ ?_ ?_ ?_
  · rw [fr_ne (by omega)]; exact h.2.2.2.2.2.2.1
  · rw [fr_ne (by omega)]; exact h.2.2.2.2.2.2.2.1
  · rw [fr_ne (by omega)]; exact h.2.2.2.2.2.2.2.2.1
  · rw [fr_ne (by omega)]; exact h.2.2.2.2.2.2.2.2.2.1
  · rw [fr_ne (by omega)]; exact h.2.2.2.2.2.2.2.2.2.2
def mw_35 (a b : Nat) : Prop := a = 135 ∧ b = 35
theorem mw_35_W {m t k u c l : Nat} : ∀ a b, mw_35 a b → mp_W f m t k u c l H a b := fun a b h => Or.inl ⟨h.1, by unfold mw_35 at h; omega⟩
theorem mp_g1 {o : Option wd_S} (h : ∀ F, fn_Mo_parse_21 (F + 1) S = wd_d o (fn_Mo_parse_21 F)) (ho : o = some S') : mp_go 1 S S' := fun F => by rw [h F, ho, wd_d_s]
theorem mp_want {kd : Int32} (h8 : n ≤ 8000) (h : mh_g T n f m (t + 1) k u c l w i S) (ht : t < 4000) (h1 : S.1 152 t = 1) (h2 : S.1 153 t = lx_cv kd) (hk : ¬lx_cv kd = 0) (hk20 : ¬kd = 20) : ∃ S', mp_go 1 S S' ∧ of_f (fun a b => nx_W a b ∨ mw_35 a b) S S' ∧ match ps_take (tk_K T n) kd i with
    | .error e => mt_e T n e S'
    | .ok j => mh_g T n f m t k u c l w j S' := by
  have hp := mh_pop h
  obtain ⟨S', e1, o1, r1⟩ := mt_want h8 hp.1 hk hk20
  refine ⟨S', mp_g1 (fun F => by rw [mp_pop h ht F, if_pos h1, h2]) e1, of_trans (of_i (Or.inr ⟨rfl, rfl⟩) of_refl) (of_mono (fun a b z => Or.inl z) o1), ?_⟩
  cases q : ps_take (tk_K T n) kd i with
  | error e => rw [q] at r1; exact r1
  | ok j => rw [q] at r1; exact mh_nx o1 hp r1
theorem mp_W135 {m t k u c l b : Nat} (h : (3 ≤ b ∧ b ≤ 10) ∨ b = 27 ∨ b = 28 ∨ b = 30 ∨ b = 35 ∨ b = 37 ∨ b = 38) : mp_W f m t k u c l H 135 b := Or.inl ⟨rfl, h⟩
end Mh
