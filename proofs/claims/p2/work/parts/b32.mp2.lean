/-! The reference's printing: tasks. -/
abbrev pm_I : Type := Int64 × Option (Nat × tr_T)
def pm_W (a b : Nat) : Prop := (a = 135 ∧ (b = 76 ∨ b = 88 ∨ b = 92)) ∨ a = 165 ∨ a = 166 ∨ a = 176 ∨ a = 177 ∨ a = 178
def pm_V (k n m a b : Nat) : Prop := (a = 135 ∧ (b = 76 ∨ b = 88 ∨ b = 92)) ∨ ((a = 165 ∨ a = 166 ∨ a = 177) ∧ k ≤ b) ∨ (a = 176 ∧ n ≤ b ∧ b < m) ∨ a = 178
def pm_h (S0 : wd_S) (pn k n : Nat) (s : pr_S) (S : wd_S) : Prop := of_f pm_W S0 S ∧ S.1 135 76 = Int32.ofNat k ∧ S.1 135 88 = Int32.ofNat n ∧ S.1 135 92 = Int32.ofNat s.1 ∧ s.1 ≤ n ∧ ∀ i j, s.2 i = some j → i < 16 ∧ S.1 178 i = Int32.ofNat j ∧ j ≤ n
def pm_R (S0 : wd_S) (pn k n : Nat) (l : List Int32) (k' : Nat) (s' : pr_S) (S S' : wd_S) : Prop := pm_h S0 pn k' (n + l.length) s' S' ∧ of_f (pm_V k n (n + l.length)) S S' ∧ ∀ j, (hj : j < l.length) → S'.1 176 (n + j) = l[j]
def pm_go (g : Nat) (S S' : wd_S) : Prop := ∀ kk F l1, fn_Mo_print_166 kk (F + g) l1 S = fn_Mo_print_166 kk F l1 S'
/-- the tasks its, the first on top, from k on -/
def pm_st (k : Nat) : List pm_I → wd_S → Prop
  | [], _ => True
  | i :: r, S => (match i.2 with
    | none => S.1 165 (k + r.length) = 1 ∧ S.2.1 177 (k + r.length) = i.1
    | some q => S.1 165 (k + r.length) = 2 ∧ S.1 166 (k + r.length) = Int32.ofNat q.1) ∧ pm_st k r S
def pr_it (self : pr_S → tr_T → pr_O) (i : pm_I) (s : pr_S) : pr_O := match i.2 with
  | none => some (pr_8 i.1, s)
  | some q => self s q.2
def pr_its (self : pr_S → tr_T → pr_O) : List pm_I → pr_S → pr_O
  | [], s => some ([], s)
  | i :: r, s => pr_b (pr_it self i s) (pr_its self r)
section Mp2
variable {pn k n m k' y z d r j g X lo hi al ah : Nat} {l l1 l2 : List Int32} {S0 S S' S1 S2 : wd_S} {t : tr_T} {s s' s1 : pr_S} {its : List pm_I} {x v : Int32} {e : Int64}
theorem pm_R_cat (h1 : pm_R S0 pn k n l1 k' s1 S S1) (h2 : pm_R S0 pn k (n + l1.length) l2 m s' S1 S2) : pm_R S0 pn k n (l1 ++ l2) m s' S S2 := by
  obtain ⟨a1, a2, a3⟩ := h1
  obtain ⟨b1, b2, b3⟩ := h2
  have el : (l1 ++ l2).length = l1.length + l2.length := List.length_append
  refine ⟨by rw [el, ← Nat.add_assoc]; exact b1, of_trans (of_mono (fun a b q => by unfold pm_V at *; omega) a2) (of_mono (fun a b q => by unfold pm_V at *; omega) b2), fun j hj => ?_⟩
  rw [el] at hj
  by_cases e : j < l1.length
  · rw [List.getElem_append_left e, b2.1 176 (n + j) (by unfold pm_V; omega)]
    exact a3 j e
  · rw [List.getElem_append_right (by omega)]
    have := b3 (j - l1.length) (by omega)
    rw [show n + l1.length + (j - l1.length) = n + j by omega] at this
    exact this
theorem pm_R_le {kk : Nat} (hk : k ≤ kk) (h : pm_R S0 pn kk n l k' s' S S') : pm_R S0 pn k n l k' s' S S' := ⟨h.1, of_mono (fun a b q => by unfold pm_V at *; omega) h.2.1, h.2.2⟩
theorem pm_t_g {g g' : Nat} (h1 : pm_go g S S1) (h2 : pm_go g' S1 S2) : pm_go (g + g') S S2 := fun kk F l1 => by rw [← h2 kk F l1, ← h1 kk (F + g') l1, Nat.add_assoc, Nat.add_comm g' g]
/-- bytes are laid -/
theorem pm_out (hp : pm_h S0 pn k n s S) (ho : mp_o n l S S') : pm_R S0 pn k n l k s S S' := by
  obtain ⟨a1, a2, a3, a4, a5, a6⟩ := hp
  refine ⟨⟨of_trans a1 (of_mono (fun a b q => by unfold pm_W; omega) ho.1), by rw [ho.1.1 135 76 (by omega)]; exact a2, ho.2.1, by rw [ho.1.1 135 92 (by omega)]; exact a4, by omega, fun i j hij => ?_⟩, of_mono (fun a b q => by unfold pm_V; omega) ho.1, ho.2.2⟩
  obtain ⟨b1, b2, b3⟩ := a6 i j hij
  exact ⟨b1, by rw [ho.1.1 178 i (by omega)]; exact b2, by omega⟩
theorem pm_st_o {kk n0 m0 : Nat} : ∀ its : List pm_I, k + its.length ≤ kk → of_f (pm_V kk n0 m0) S S' → pm_st k its S → pm_st k its S' := by
  intro its
  induction its with
  | nil => intro _ _ _; trivial
  | cons i r ih =>
    intro hk ho h
    have hk : k + (r.length + 1) ≤ kk := hk
    refine ⟨?_, ih (by omega) ho h.2⟩
    have e1 : S'.1 165 (k + r.length) = S.1 165 (k + r.length) := ho.1 165 _ (by unfold pm_V; omega)
    have e2 : S'.1 166 (k + r.length) = S.1 166 (k + r.length) := ho.1 166 _ (by unfold pm_V; omega)
    have e3 : S'.2.1 177 (k + r.length) = S.2.1 177 (k + r.length) := ho.2.1 177 _ (by unfold pm_V; omega)
    have h1 := h.1
    cases hi : i.2 with
    | none => rw [hi] at h1; exact ⟨by rw [e1]; exact h1.1, by rw [e3]; exact h1.2⟩
    | some q => rw [hi] at h1; exact ⟨by rw [e1]; exact h1.1, by rw [e2]; exact h1.2⟩
/-- a task more -/
theorem pm_px (hp : pm_h S0 pn k n s S) (hk : k < 4000) (hn : n ≤ 40000) : ∃ S', fn_Mo_later 2 (Int32.ofNat z) S = some S' ∧ pm_R S0 pn k n [] (k + 1) s S S' ∧ S'.1 165 k = 2 ∧ S'.1 166 k = Int32.ofNat z := by
  obtain ⟨a1, a2, a3, a4, a5, a6⟩ := hp
  have o := ml_o (k := k) (x := 2) (v := Int32.ofNat z) (S := S)
  refine ⟨_, mm_later a2 hk, ⟨⟨of_trans a1 (of_mono (fun a b q => by unfold pm_W; omega) o), ml_76, by rw [o.1 135 88 (by omega)]; exact a3, by rw [o.1 135 92 (by omega)]; exact a4, a5, fun i j hij => ?_⟩, of_mono (fun a b q => by unfold pm_V; omega) o, fun j hj => absurd hj (Nat.not_lt_zero _)⟩, by rw [ml_165, if_pos rfl], by rw [ml_166, if_pos rfl]⟩
  obtain ⟨b1, b2, b3⟩ := a6 i j hij
  exact ⟨b1, by rw [o.1 178 i (by omega)]; exact b2, b3⟩
theorem pm_pb (hp : pm_h S0 pn k n s S) (hk : k < 4000) (hn : n ≤ 40000) : ∃ S', fn_Mo_bytesLater e S = some S' ∧ pm_R S0 pn k n [] (k + 1) s S S' ∧ S'.1 165 k = 1 ∧ S'.2.1 177 k = e := by
  obtain ⟨a1, a2, a3, a4, a5, a6⟩ := hp
  have e2 : (wd_l S 177 k e).1 135 76 = Int32.ofNat k := by rw [fr_l2]; exact a2
  have o1 : of_f (fun a b => a = 177 ∧ b = k) S (wd_l S 177 k e) := of_l ⟨rfl, rfl⟩ of_refl
  have o2 := ml_o (k := k) (x := 1) (v := 0) (S := wd_l S 177 k e)
  have o : of_f (fun a b => (a = 135 ∧ b = 76) ∨ ((a = 165 ∨ a = 166 ∨ a = 177) ∧ b = k)) S (ml_p k 1 0 (wd_l S 177 k e)) := of_trans (of_mono (fun a b q => by omega) o1) (of_mono (fun a b q => by omega) o2)
  refine ⟨ml_p k 1 0 (wd_l S 177 k e), ?_, ⟨⟨of_trans a1 (of_mono (fun a b q => by unfold pm_W; omega) o), ml_76, by rw [o.1 135 88 (by omega)]; exact a3, by rw [o.1 135 92 (by omega)]; exact a4, a5, fun i j hij => ?_⟩, of_mono (fun a b q => by unfold pm_V; omega) o, fun j hj => absurd hj (Nat.not_lt_zero _)⟩, by rw [ml_165, if_pos rfl], ?_⟩
  · unfold fn_Mo_bytesLater fn_Mo_bytesLater_26
    simp only [wd_b, wd_d_id]
    rw [a2, if_pos (show Int32.ofNat k < 4000 from (im_lt (m := k) (n := 4000) (by omega) (by omega)).mpr hk), if_neg (ms_in hk (by decide)), im_t (show k < 2147483648 by omega), mm_later e2 hk]
  · obtain ⟨b1, b2, b3⟩ := a6 i j hij
    exact ⟨b1, by rw [o.1 178 i (by omega)]; exact b2, b3⟩
  · show (wd_l S 177 k e).2.1 177 k = e
    rw [fr_l1, if_pos ⟨rfl, rfl⟩]
/-- the top task is taken -/
theorem pm_popb (hp : pm_h S0 pn (k + 1) n s S) (hk : k < 4000) (h165 : S.1 165 k = 1) (h177 : S.2.1 177 k = e) (hn : n + (pr_8 e).length ≤ 40000) : ∃ S', pm_go 1 S S' ∧ pm_R S0 pn k n (pr_8 e) k s S S' := by
  obtain ⟨a1, a2, a3, a4, a5, a6⟩ := hp
  have o1 : of_f (fun a b => a = 135 ∧ b = 76) S (wd_i S 135 76 (Int32.ofNat k)) := of_i ⟨rfl, rfl⟩ of_refl
  have hp1 : pm_h S0 pn k n s (wd_i S 135 76 (Int32.ofNat k)) := by
    refine ⟨of_trans a1 (of_mono (fun a b q => by unfold pm_W; omega) o1), fr_eq, by rw [o1.1 135 88 (by omega)]; exact a3, by rw [o1.1 135 92 (by omega)]; exact a4, a5, fun i j hij => ?_⟩
    obtain ⟨b1, b2, b3⟩ := a6 i j hij
    exact ⟨b1, by rw [o1.1 178 i (by omega)]; exact b2, b3⟩
  obtain ⟨S2, f2, o2⟩ := mp_all (e := e) n (wd_i S 135 76 (Int32.ofNat k)) hp1.2.2.1 hn
  have r2 := pm_out hp1 o2
  refine ⟨S2, fun kk F l1 => ?_, ⟨r2.1, of_trans (of_mono (fun a b q => by unfold pm_V; omega) o1) r2.2.1, r2.2.2⟩⟩
  rw [fn_Mo_print_166, a2, if_pos (show (0 : Int32) < Int32.ofNat (k + 1) from (im_lt (m := 0) (n := k + 1) (by omega) (by omega)).mpr (by omega)), im_p]
  simp only [wd_b]
  rw [fr_eq, if_neg (ms_in hk (by decide)), im_t (show k < 2147483648 by omega), fr_ne (show ¬(165 = 135 ∧ _) by omega), h165, if_pos rfl, if_neg (ms_iy hk (by decide)), show (wd_i S 135 76 (Int32.ofNat k)).2.1 177 k = e from h177, f2, wd_d_s]
theorem pm_pope (hp : pm_h S0 pn (k + 1) n s S) (hk : k < 4000) (h165 : S.1 165 k = 2) (h166 : S.1 166 k = Int32.ofNat y) : pm_h S0 pn k n s (wd_i S 135 76 (Int32.ofNat k)) ∧ of_f (pm_V k n n) S (wd_i S 135 76 (Int32.ofNat k)) ∧ ∀ S', fn_Mo_onExpression (Int32.ofNat y) (wd_i S 135 76 (Int32.ofNat k)) = some S' → pm_go 1 S S' := by
  obtain ⟨a1, a2, a3, a4, a5, a6⟩ := hp
  have o1 : of_f (fun a b => a = 135 ∧ b = 76) S (wd_i S 135 76 (Int32.ofNat k)) := of_i ⟨rfl, rfl⟩ of_refl
  refine ⟨⟨of_trans a1 (of_mono (fun a b q => by unfold pm_W; omega) o1), fr_eq, by rw [o1.1 135 88 (by omega)]; exact a3, by rw [o1.1 135 92 (by omega)]; exact a4, a5, fun i j hij => ?_⟩, of_mono (fun a b q => by unfold pm_V; omega) o1, fun S' f' kk F l1 => ?_⟩
  · obtain ⟨b1, b2, b3⟩ := a6 i j hij
    exact ⟨b1, by rw [o1.1 178 i (by omega)]; exact b2, b3⟩
  · rw [fn_Mo_print_166, a2, if_pos (show (0 : Int32) < Int32.ofNat (k + 1) from (im_lt (m := 0) (n := k + 1) (by omega) (by omega)).mpr (by omega)), im_p]
    simp only [wd_b]
    rw [fr_eq, if_neg (ms_in hk (by decide)), im_t (show k < 2147483648 by omega), fr_ne (show ¬(165 = 135 ∧ _) by omega), h165, if_neg (show ¬(2 : Int32) = 1 by decide), if_neg (ms_iy hk (by decide)), fr_ne (show ¬(166 = 135 ∧ _) by omega), h166, f', wd_d_s]
def pm_S (S0 : wd_S) (X lo hi al ah pn r : Nat) : Prop := ∀ (k n y d : Nat) (t : tr_T) (s : pr_S) (S : wd_S) (l : List Int32) (s' : pr_S), pm_h S0 pn (k + 1) n s S → S.1 165 k = 2 → S.1 166 k = Int32.ofNat y → mj_t S0 X lo hi al ah d y t → pr pn r s t = some (l, s') → n + l.length ≤ 40000 → k + 10 * r ≤ 3900 → ∃ g S', pm_go g S S' ∧ g ≤ l.length ∧ pm_R S0 pn k n l k s' S S'
/-- tasks are done one by one -/
theorem pm_run (hS : pm_S S0 X lo hi al ah pn r) : ∀ (its : List pm_I) (n : Nat) (s : pr_S) (S : wd_S) (l : List Int32) (s' : pr_S), pm_h S0 pn (k + its.length) n s S → pm_st k its S → (∀ i, i ∈ its → match i.2 with | none => 1 ≤ (pr_8 i.1).length | some q => ∃ d, mj_t S0 X lo hi al ah d q.1 q.2) → pr_its (pr pn r) its s = some (l, s') → n + l.length ≤ 40000 → k + its.length + 10 * r ≤ 3900 → ∃ g S', pm_go g S S' ∧ g ≤ l.length ∧ pm_R S0 pn k n l k s' S S' := by
  intro its
  induction its with
  | nil =>
    intro n s S l s' hp _ _ he hn _
    cases he
    exact ⟨0, S, fun _ _ _ => rfl, Nat.le_refl _, hp, of_refl, fun j hj => absurd hj (Nat.not_lt_zero _)⟩
  | cons i r' ih =>
    intro n s S l s' hp hst hit he hn hk
    have hk : k + (r'.length + 1) + 10 * r ≤ 3900 := hk
    have hp : pm_h S0 pn (k + r'.length + 1) n s S := hp
    obtain ⟨l1, s1, l2, q1, q2, rfl⟩ := pr_b_ok he
    rw [List.length_append] at hn
    have hi := hit i List.mem_cons_self
    have h1 : ∃ g S', pm_go g S S' ∧ g ≤ l1.length ∧ pm_R S0 pn (k + r'.length) n l1 (k + r'.length) s1 S S' := by
      have hs := hst.1
      unfold pr_it at q1
      cases e2 : i.2 with
      | none =>
        rw [e2] at q1 hi hs
        cases q1
        obtain ⟨S1, g1, r1⟩ := pm_popb hp (by omega) hs.1 hs.2 (by omega)
        exact ⟨1, S1, g1, hi, r1⟩
      | some q =>
        rw [e2] at q1 hi hs
        obtain ⟨d, hd⟩ := hi
        exact hS (k + r'.length) n q.1 d q.2 s S l1 s1 hp hs.1 hs.2 hd q1 (by omega) (by omega)
    obtain ⟨g1, S1, go1, le1, r1⟩ := h1
    obtain ⟨g2, S2, go2, le2, r2⟩ := ih (n + l1.length) s1 S1 l2 s' r1.1 (pm_st_o r' (Nat.le_refl _) r1.2.1 hst.2) (fun i hi => hit i (List.mem_cons_of_mem _ hi)) q2 (by omega) (by omega)
    refine ⟨g1 + g2, S2, pm_t_g go1 go2, by rw [List.length_append]; omega, pm_R_cat (pm_R_le (Nat.le_add_right _ _) r1) r2⟩
end Mp2
