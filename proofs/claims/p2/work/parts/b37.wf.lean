/-! Trees as they should be: names in scope, slots fresh, calls with as many arguments as wanted. -/
def gd {ε α : Type} (Q : α → Prop) (x : Except (Option ε) α) : Prop := match x with
  | .ok a => Q a
  | .error none => False
  | .error (some _) => True
theorem gd_ev {α β : Type} {Q : α → Prop} {Q' : β → Prop} {x : Except ev_E α} {f : α → Except ev_E β} (h : gd Q x) (hf : ∀ a, Q a → gd Q' (f a)) : gd Q' (ev_b x f) := by
  cases x with
  | ok a => exact hf a h
  | error e =>
    cases e with
    | none => exact h.elim
    | some u => trivial
theorem gd_mk {α β : Type} {Q : α → Prop} {Q' : β → Prop} {x : Except mk_E α} {f : α → Except mk_E β} (h : gd Q x) (hf : ∀ a, Q a → gd Q' (f a)) : gd Q' (mk_b x f) := by
  cases x with
  | ok a => exact hf a h
  | error e =>
    cases e with
    | none => exact h.elim
    | some u => trivial
theorem gd_m {ε α : Type} {Q Q' : α → Prop} {x : Except (Option ε) α} (h : gd Q x) (hq : ∀ a, Q a → Q' a) : gd Q' x := by
  cases x with
  | ok a => exact hq a h
  | error e =>
    cases e with
    | none => exact h.elim
    | some u => trivial
def wf_b (fr : Prop) (l : Nat) (ar : Nat → Nat) (R : (Nat → Prop) → tr_T → Prop) (B : Nat → Prop) (t : tr_T) : Prop := tr_k t = 1 ∨ (tr_k t = 2 ∧ tr_v t = Int32.ofNat (tr_n t) ∧ tr_n t < 16 ∧ B (tr_n t)) ∨ (tr_k t = 3 ∧ tr_v t = Int32.ofNat (tr_n t) ∧ tr_n t < 16 ∧ tr_a t = 2 ∧ (fr → ¬B (tr_n t)) ∧ R B (tr_sub t 0) ∧ R (fun s => B s ∨ s = tr_n t) (tr_sub t 1)) ∨ (tr_k t = 4 ∧ tr_a t = 3 ∧ R B (tr_sub t 0) ∧ R B (tr_sub t 1) ∧ R B (tr_sub t 2)) ∨ (tr_k t = 5 ∧ tr_a t ≤ 4 ∧ tr_v t = Int32.ofNat (tr_n t) ∧ tr_n t < l ∧ tr_a t = ar (tr_n t) ∧ ∀ j, j < tr_a t → R B (tr_sub t j)) ∨ ((tr_k t = 6 ∨ tr_k t = 7 ∨ tr_k t = 8 ∨ tr_k t = 9 ∨ tr_k t = 10) ∧ tr_a t = 2 ∧ R B (tr_sub t 0) ∧ R B (tr_sub t 1))
def wf_t (fr : Prop) (l : Nat) (ar : Nat → Nat) : Nat → (Nat → Prop) → tr_T → Prop
  | 0 => fun _ _ => False
  | d + 1 => fun B t => wf_b fr l ar (wf_t fr l ar d) B t
section Wf
variable {fr fr' : Prop} {l l' : Nat} {ar ar' : Nat → Nat} {B : Nat → Prop} {t : tr_T} {P : List tr_T} {lim : Nat}
theorem wf_b_m {R R' : (Nat → Prop) → tr_T → Prop} (hf : fr' → fr) (hR : ∀ B t, R B t → R' B t) (hl : l ≤ l') (ha : ∀ f, f < l → ar' f = ar f) (h : wf_b fr l ar R B t) : wf_b fr' l' ar' R' B t := by
  rcases h with h | h | ⟨a1, a2, a3, a4, a5, a6, a7⟩ | ⟨a1, a2, a3, a4, a5⟩ | ⟨a1, a2, a3, a4, a5, a6⟩ | ⟨a1, a2, a3, a4⟩
  · exact Or.inl h
  · exact Or.inr (Or.inl h)
  · exact Or.inr (Or.inr (Or.inl ⟨a1, a2, a3, a4, fun q => a5 (hf q), hR _ _ a6, hR _ _ a7⟩))
  · exact Or.inr (Or.inr (Or.inr (Or.inl ⟨a1, a2, hR _ _ a3, hR _ _ a4, hR _ _ a5⟩)))
  · exact Or.inr (Or.inr (Or.inr (Or.inr (Or.inl ⟨a1, a2, a3, by omega, by rw [ha _ a4]; exact a5, fun j hj => hR _ _ (a6 j hj)⟩))))
  · exact Or.inr (Or.inr (Or.inr (Or.inr (Or.inr ⟨a1, a2, hR _ _ a3, hR _ _ a4⟩))))
theorem wf_t_m (hf : fr' → fr) (hl : l ≤ l') (ha : ∀ f, f < l → ar' f = ar f) : ∀ (d : Nat) (B : Nat → Prop) (t : tr_T), wf_t fr l ar d B t → wf_t fr' l' ar' d B t := by
  intro d
  induction d with
  | zero => intro B t h; exact h
  | succ d ih => intro B t h; exact wf_b_m hf ih hl ha h
theorem wf_t_s : ∀ (d : Nat) (B : Nat → Prop) (t : tr_T), wf_t fr l ar d B t → wf_t fr l ar (d + 1) B t := by
  intro d
  induction d with
  | zero => intro B t h; exact h.elim
  | succ d ih => intro B t h; exact wf_b_m id ih (Nat.le_refl _) (fun _ _ => rfl) h
theorem wf_t_le {d e : Nat} (h : wf_t fr l ar d B t) (hde : d ≤ e) : wf_t fr l ar e B t := by
  induction hde with
  | refl => exact h
  | step _ ih => exact wf_t_s _ _ _ ih
theorem wf_ok {R : (Nat → Prop) → tr_T → Prop} (h : wf_b fr l ar R B t) : ev_ok l t := by
  rcases h with h | ⟨a1, a2, a3, -⟩ | ⟨a1, a2, a3, a4, -⟩ | ⟨a1, a2, -⟩ | ⟨a1, a2, a3, a4, -⟩ | ⟨a1, a2, -⟩
  · exact Or.inl h
  · exact Or.inr (Or.inl ⟨a1, a2, a3⟩)
  · exact Or.inr (Or.inr (Or.inl ⟨a1, a2, a3, a4⟩))
  · exact Or.inr (Or.inr (Or.inr (Or.inl ⟨a1, a2⟩)))
  · exact Or.inr (Or.inr (Or.inr (Or.inr (Or.inl ⟨a1, a2, a3, a4⟩))))
  · exact Or.inr (Or.inr (Or.inr (Or.inr (Or.inr ⟨a1, a2⟩))))
/-- V has all of B -/
def wf_V (B : Nat → Prop) (V : ev_V) : Prop := ∀ i, B i → ∃ v, V i = some v
def wf_g (V W : ev_V) : Prop := ∀ i v, V i = some v → ∃ w, W i = some w
theorem wf_V_g {V W : ev_V} (h : wf_V B V) (g : wf_g V W) : wf_V B W := fun i hi => by
  obtain ⟨v, hv⟩ := h i hi
  exact g i v hv
theorem wf_g_t {V W X : ev_V} (h : wf_g V W) (g : wf_g W X) : wf_g V X := fun i v hv => by
  obtain ⟨w, hw⟩ := h i v hv
  exact g i w hw
theorem wf_g_u {V : ev_V} {s : Nat} {x : Int32} : wf_g V (ev_u V s x) := fun i v hv => by
  unfold ev_u
  by_cases e : i = s
  · exact ⟨x, by rw [if_pos e]⟩
  · exact ⟨v, by rw [if_neg e]; exact hv⟩
theorem ev_args_nn {self : ev_P} : ∀ (r j : Nat) (V : ev_V) (s m : Nat), (∀ i, i < j + r → ∀ V s m, wf_V B V → gd (fun q => wf_g V q.2.1) (self V s m (tr_sub t i))) → wf_V B V → gd (fun q => q.1.length = r ∧ wf_g V q.2.1) (ev_args self t r j V s m) := by
  intro r
  induction r with
  | zero => intro j V s m _ _; exact ⟨rfl, fun i v h => ⟨v, h⟩⟩
  | succ r ih =>
    intro j V s m hs hV
    refine gd_ev (hs j (by omega) V s m hV) (fun q hq => ?_)
    refine gd_ev (ih (j + 1) q.2.1 q.2.2.1 q.2.2.2 (fun i hi => hs i (by omega)) (wf_V_g hV hq)) (fun w hw => ?_)
    exact ⟨by show w.1.length + 1 = r + 1; rw [hw.1], wf_g_t hq hw.2⟩
/-- a run of trees as they should be never comes to nothing -/
theorem ev_nn (hP : ∀ f, f < P.length → ∃ d, wf_t fr P.length ar d (fun s => s < ar f) (P.getD f tr_z)) : ∀ (r d : Nat) (B : Nat → Prop) (V : ev_V) (s m : Nat) (t : tr_T), wf_t fr P.length ar d B t → wf_V B V → gd (fun q => wf_g V q.2.1) (ev P lim r V s m t) := by
  intro r
  induction r with
  | zero =>
    intro d B V s m t _ _
    unfold ev
    split <;> trivial
  | succ r ih =>
    intro d B V s m t ht hV
    unfold ev
    split
    · trivial
    · cases d with
      | zero => exact ht.elim
      | succ d =>
        have ht : wf_b fr P.length ar (wf_t fr P.length ar d) B t := ht
        unfold ev_in
        rw [if_pos (wf_ok ht)]
        rcases ht with h | ⟨a1, a2, a3, a4⟩ | ⟨a1, a2, a3, a4, a5, a6, a7⟩ | ⟨a1, a2, a3, a4, a5⟩ | ⟨a1, a2, a3, a4, a5, a6⟩ | ⟨a1, a2, a3, a4⟩
        · rw [if_pos h]
          exact fun i v h => ⟨v, h⟩
        · rw [a1, if_neg (show ¬(2 : Int32) = 1 by decide), if_pos rfl]
          obtain ⟨v, hv⟩ := hV _ a4
          rw [hv]
          exact fun i v h => ⟨v, h⟩
        · rw [a1, if_neg (show ¬(3 : Int32) = 1 by decide), if_neg (show ¬(3 : Int32) = 2 by decide), if_pos rfl]
          refine gd_ev (ih d B V _ _ _ a6 hV) (fun q hq => ?_)
          refine gd_m (ih d _ (ev_u q.2.1 (tr_n t) q.1) _ _ _ a7 (fun i hi => ?_)) (fun w hw => wf_g_t hq (wf_g_t wf_g_u hw))
          rcases hi with hi | hi
          · exact wf_V_g (wf_V_g hV hq) wf_g_u i hi
          · exact ⟨q.1, by unfold ev_u; rw [if_pos hi]⟩
        · rw [a1, if_neg (show ¬(4 : Int32) = 1 by decide), if_neg (show ¬(4 : Int32) = 2 by decide), if_neg (show ¬(4 : Int32) = 3 by decide), if_pos rfl]
          refine gd_ev (ih d B V _ _ _ a3 hV) (fun q hq => ?_)
          by_cases e : q.1 = 0
          · rw [if_pos e]
            exact gd_m (ih d B q.2.1 _ _ _ a5 (wf_V_g hV hq)) (fun w hw => wf_g_t hq hw)
          · rw [if_neg e]
            exact gd_m (ih d B q.2.1 _ _ _ a4 (wf_V_g hV hq)) (fun w hw => wf_g_t hq hw)
        · rw [a1, if_neg (show ¬(5 : Int32) = 1 by decide), if_neg (show ¬(5 : Int32) = 2 by decide), if_neg (show ¬(5 : Int32) = 3 by decide), if_neg (show ¬(5 : Int32) = 4 by decide), if_pos rfl]
          refine gd_ev (ev_args_nn (B := B) (tr_a t) 0 V _ _ (fun i hi V s m hV => ih d B V s m _ (a6 i (by omega)) hV) hV) (fun q hq => ?_)
          obtain ⟨e, he⟩ := hP (tr_n t) a4
          refine gd_ev (ih e _ (ev_l q.1) _ _ _ he (fun i hi => ?_)) (fun w hw => hq.2)
          have hi : i < ar (tr_n t) := hi
          exact ⟨q.1[i]'(by rw [hq.1]; omega), List.getElem?_eq_getElem _⟩
        · have nk : ¬tr_k t = 1 ∧ ¬tr_k t = 2 ∧ ¬tr_k t = 3 ∧ ¬tr_k t = 4 ∧ ¬tr_k t = 5 := by
            rcases a1 with z | z | z | z | z <;> rw [z] <;> decide
          rw [if_neg nk.1, if_neg nk.2.1, if_neg nk.2.2.1, if_neg nk.2.2.2.1, if_neg nk.2.2.2.2]
          refine gd_ev (ih d B V _ _ _ a3 hV) (fun q hq => ?_)
          exact gd_ev (ih d B q.2.1 _ _ _ a4 (wf_V_g hV hq)) (fun w hw => wf_g_t hq hw)
end Wf
