/-! Trees in the class's rows: a node that is opened, a part more; what a tree is there; nodes that stay. -/
def nd_L (t L : Nat) : Prop := (tp_t (t + 2)).2 = L ∧ (tp_t (t + 4)).2 = L ∧ (tp_t (t + 6)).2 = L ∧ (tp_t (t + 8)).2 = 4 * L ∧ (tp_t (t + 10)).2 = L ∧ (tp_t (t + 12)).2 = L
theorem fr_e {S : wd_S} {a k b m : Nat} {v : Int32} (h : b = a ∧ m = k) : (wd_i S a k v).1 b m = v := by rw [fr_i1, if_pos h]
/-- the nodes that p tells are the same -/
def nd_g (t : Nat) (p : Nat → Prop) (S S' : wd_S) : Prop := ∀ x, p x → S'.1 (t + 2) x = S.1 (t + 2) x ∧ S'.1 (t + 4) x = S.1 (t + 4) x ∧ S'.1 (t + 6) x = S.1 (t + 6) x ∧ S'.1 (t + 10) x = S.1 (t + 10) x ∧ S'.1 (t + 12) x = S.1 (t + 12) x ∧ ∀ j, j < 4 → S'.1 (t + 8) (4 * x + j) = S.1 (t + 8) (4 * x + j)
theorem nd_refl {t : Nat} {p : Nat → Prop} {S : wd_S} : nd_g t p S S := fun _ _ => ⟨rfl, rfl, rfl, rfl, rfl, fun _ _ => rfl⟩
theorem nd_trans {t : Nat} {p : Nat → Prop} {S S1 S2 : wd_S} (h1 : nd_g t p S S1) (h2 : nd_g t p S1 S2) : nd_g t p S S2 := fun x hx => by
  obtain ⟨a1, a2, a3, a4, a5, a6⟩ := h1 x hx
  obtain ⟨b1, b2, b3, b4, b5, b6⟩ := h2 x hx
  exact ⟨b1.trans a1, b2.trans a2, b3.trans a3, b4.trans a4, b5.trans a5, fun j hj => (b6 j hj).trans (a6 j hj)⟩
theorem nd_mono {t : Nat} {p q : Nat → Prop} {S S1 : wd_S} (hpq : ∀ x, q x → p x) (h1 : nd_g t p S S1) : nd_g t q S S1 := fun x hx => h1 x (hpq x hx)
theorem nd_rows {t : Nat} {p : Nat → Prop} {S S' : wd_S} (h : ∀ a, t ≤ a → a ≤ t + 12 → S'.1 a = S.1 a) : nd_g t p S S' := fun x _ => by
  rw [h (t + 2) (by omega) (by omega), h (t + 4) (by omega) (by omega), h (t + 6) (by omega) (by omega), h (t + 10) (by omega) (by omega), h (t + 12) (by omega) (by omega), h (t + 8) (by omega) (by omega)]
  exact ⟨rfl, rfl, rfl, rfl, rfl, fun _ _ => rfl⟩
/-- a node with kind, value, its parts so far, its size and lets so far -/
def nd_o (t : Nat) (S : wd_S) (y : Nat) (k v : Int32) (zs : List Nat) (sz lt : Nat) : Prop := S.1 (t + 2) y = k ∧ S.1 (t + 4) y = v ∧ S.1 (t + 6) y = Int32.ofNat zs.length ∧ S.1 (t + 10) y = Int32.ofNat sz ∧ S.1 (t + 12) y = Int32.ofNat lt ∧ ∀ j, j < 4 → (hj : j < zs.length) → S.1 (t + 8) (4 * y + j) = Int32.ofNat zs[j]
theorem nd_o_g {t : Nat} {p : Nat → Prop} {S S' : wd_S} {y : Nat} {k v : Int32} {zs : List Nat} {sz lt : Nat} (hy : p y) (h : nd_g t p S S') (ho : nd_o t S y k v zs sz lt) : nd_o t S' y k v zs sz lt := by
  obtain ⟨a1, a2, a3, a4, a5, a6⟩ := h y hy
  obtain ⟨b1, b2, b3, b4, b5, b6⟩ := ho
  exact ⟨a1.trans b1, a2.trans b2, a3.trans b3, a4.trans b4, a5.trans b5, fun j hj hz => (a6 j hj).trans (b6 j hj hz)⟩
/-- opening a node -/
theorem nd_op_out (t : Nat) (k v : Int32) (S : wd_S) : (∀ a, a < t ∨ t + 12 < a → (fo_op t k v S).1 a = S.1 a) ∧ (fo_op t k v S).2 = S.2 := by
  have hp : ∀ (r : Nat) (i w : Int32) (S1 : wd_S) (a : Nat), a ≠ r + 1 → (ro_put r i w S1).1 a = S1.1 a := fun r i w S1 a h => by
    unfold ro_put
    split
    · rfl
    · exact fr_row S1 h
  unfold fo_op
  refine ⟨fun a ha => ?_, ?_⟩
  · rw [hp _ _ _ _ _ (by omega), hp _ _ _ _ _ (by omega), hp _ _ _ _ _ (by omega), hp _ _ _ _ _ (by omega), hp _ _ _ _ _ (by omega), fr_row _ (by omega)]
  · rw [fr_p2, fr_p2, fr_p2, fr_p2, fr_p2]
    rfl
theorem nd_op {t L c : Nat} {k v : Int32} {S : wd_S} (hL : nd_L t L) (hc : S.1 t 6 = Int32.ofNat c) (hcL : c < L) : (fo_op t k v S).1 t 6 = Int32.ofNat (c + 1) ∧ nd_g t (fun x => x ≠ c) S (fo_op t k v S) ∧ nd_o t (fo_op t k v S) c k v [] 1 (if k = 3 then 1 else 0) := by
  obtain ⟨h2, h4, h6, h8, h10, h12⟩ := hL
  have e : fo_op t k v S = wd_i (wd_i (wd_i (wd_i (wd_i (wd_i S t 6 (Int32.ofNat (c + 1))) (t + 1 + 1) c k) (t + 3 + 1) c v) (t + 5 + 1) c 0) (t + 9 + 1) c 1) (t + 11 + 1) c (if k = 3 then 1 else 0) := by
    unfold fo_op
    rw [hc, im_s, ro_pn h12 hcL, ro_pn h10 hcL, ro_pn h6 hcL, ro_pn h4 hcL, ro_pn h2 hcL]
  rw [e]
  refine ⟨?_, fun x hx => ⟨?_, ?_, ?_, ?_, ?_, fun j _ => ?_⟩, ?_, ?_, ?_, ?_, ?_, fun j _ hj => absurd hj (Nat.not_lt_zero _)⟩
  · rw [fr_ne (by omega), fr_ne (by omega), fr_ne (by omega), fr_ne (by omega), fr_ne (by omega), fr_eq]
  · rw [fr_ne (by omega), fr_ne (by omega), fr_ne (by omega), fr_ne (by omega), fr_ne (by omega), fr_ne (by omega)]
  · rw [fr_ne (by omega), fr_ne (by omega), fr_ne (by omega), fr_ne (by omega), fr_ne (by omega), fr_ne (by omega)]
  · rw [fr_ne (by omega), fr_ne (by omega), fr_ne (by omega), fr_ne (by omega), fr_ne (by omega), fr_ne (by omega)]
  · rw [fr_ne (by omega), fr_ne (by omega), fr_ne (by omega), fr_ne (by omega), fr_ne (by omega), fr_ne (by omega)]
  · rw [fr_ne (by omega), fr_ne (by omega), fr_ne (by omega), fr_ne (by omega), fr_ne (by omega), fr_ne (by omega)]
  · rw [fr_ne (by omega), fr_ne (by omega), fr_ne (by omega), fr_ne (by omega), fr_ne (by omega), fr_ne (by omega)]
  · rw [fr_ne (by omega), fr_ne (by omega), fr_ne (by omega), fr_ne (by omega), fr_e (by omega)]
  · rw [fr_ne (by omega), fr_ne (by omega), fr_ne (by omega), fr_e (by omega)]
  · rw [fr_ne (by omega), fr_ne (by omega), fr_e (by omega)]
    rfl
  · rw [fr_ne (by omega), fr_e (by omega)]
    rfl
  · rw [fr_e (by omega)]
    by_cases hk : k = 3
    · rw [if_pos hk, if_pos hk]
      rfl
    · rw [if_neg hk, if_neg hk]
      rfl
/-- a part more -/
theorem nd_ap_out (t : Nat) (i v : Int32) (S : wd_S) : (∀ a, a ≤ t + 5 ∨ t + 12 < a → (fo_ap t i v S).1 a = S.1 a) ∧ (fo_ap t i v S).2 = S.2 := by
  have hp : ∀ (r : Nat) (i w : Int32) (S1 : wd_S) (a : Nat), a ≠ r + 1 → (ro_put r i w S1).1 a = S1.1 a := fun r i w S1 a h => by
    unfold ro_put
    split
    · rfl
    · exact fr_row S1 h
  unfold fo_ap
  refine ⟨fun a ha => ?_, ?_⟩
  · rw [hp _ _ _ _ _ (by omega), hp _ _ _ _ _ (by omega), hp _ _ _ _ _ (by omega)]
    split
    · rw [hp _ _ _ _ _ (by omega)]
    · rfl
  · rw [fr_p2, fr_p2, fr_p2]
    split
    · rw [fr_p2]
    · rfl
theorem nd_ap {t L y z : Nat} {k v : Int32} {zs : List Nat} {sz lt s2 l2 : Nat} {S : wd_S} (hL : nd_L t L) (hy : y < L) (hz : z < L) (hyz : y ≠ z) (hl : zs.length < 100000) (ho : nd_o t S y k v zs sz lt) (h10 : S.1 (t + 10) z = Int32.ofNat s2) (h12 : S.1 (t + 12) z = Int32.ofNat l2) : nd_g t (fun x => x ≠ y) S (fo_ap t (Int32.ofNat y) (Int32.ofNat z) S) ∧ nd_o t (fo_ap t (Int32.ofNat y) (Int32.ofNat z) S) y k v (zs ++ [z]) (sz + s2) (lt + l2) := by
  obtain ⟨g2, g4, g6, g8, g10, g12⟩ := hL
  obtain ⟨o2, o4, o6, o10, o12, o8⟩ := ho
  have hsm := tp_sm (t + 8)
  have e6 : ro_at (t + 5) (Int32.ofNat y) S = Int32.ofNat zs.length := by rw [ro_an g6 hy]; exact o6
  have ex : Int32.ofNat y * 4 + Int32.ofNat zs.length = Int32.ofNat (4 * y + zs.length) := by
    rw [show (4 : Int32) = Int32.ofNat 4 from rfl, ← Int32.ofNat_mul, ← Int32.ofNat_add, Nat.mul_comm]
  generalize hS1 : (if Int32.ofNat zs.length < 4 then ro_put (t + 7) (Int32.ofNat (4 * y + zs.length)) (Int32.ofNat z) S else S) = S1
  have p1 : ∀ a m, ¬(a = t + 8 ∧ m = 4 * y + zs.length) → S1.1 a m = S.1 a m := by
    intro a m h
    rw [← hS1]
    split
    · next hlt =>
      have hlt : zs.length < 4 := (mo_lt (m := 4) (b := 4) (by omega) (by omega) rfl).mp hlt
      rw [ro_pn g8 (by omega), fr_ne (by omega)]
    · rfl
  have p2 : zs.length < 4 → S1.1 (t + 8) (4 * y + zs.length) = Int32.ofNat z := by
    intro h
    rw [← hS1, if_pos ((mo_lt (m := 4) (b := 4) (by omega) (by omega) rfl).mpr h), ro_pn g8 (by omega), fr_e (by omega)]
  have e : fo_ap t (Int32.ofNat y) (Int32.ofNat z) S = wd_i (wd_i (wd_i S1 (t + 5 + 1) y (Int32.ofNat (zs.length + 1))) (t + 9 + 1) y (Int32.ofNat (sz + s2))) (t + 11 + 1) y (Int32.ofNat (lt + l2)) := by
    unfold fo_ap
    simp only []
    rw [e6, ex, hS1, im_s, ro_pn g6 hy]
    have a1 : ro_at (t + 9) (Int32.ofNat y) (wd_i S1 (t + 5 + 1) y (Int32.ofNat (zs.length + 1))) = Int32.ofNat sz := by
      rw [ro_an g10 hy, fr_ne (by omega), p1 _ _ (by omega)]
      exact o10
    have a2 : ro_at (t + 9) (Int32.ofNat z) (wd_i S1 (t + 5 + 1) y (Int32.ofNat (zs.length + 1))) = Int32.ofNat s2 := by
      rw [ro_an g10 hz, fr_ne (by omega), p1 _ _ (by omega)]
      exact h10
    rw [a1, a2, ← Int32.ofNat_add, ro_pn g10 hy]
    have a3 : ro_at (t + 11) (Int32.ofNat y) (wd_i (wd_i S1 (t + 5 + 1) y (Int32.ofNat (zs.length + 1))) (t + 9 + 1) y (Int32.ofNat (sz + s2))) = Int32.ofNat lt := by
      rw [ro_an g12 hy, fr_ne (by omega), fr_ne (by omega), p1 _ _ (by omega)]
      exact o12
    have a4 : ro_at (t + 11) (Int32.ofNat z) (wd_i (wd_i S1 (t + 5 + 1) y (Int32.ofNat (zs.length + 1))) (t + 9 + 1) y (Int32.ofNat (sz + s2))) = Int32.ofNat l2 := by
      rw [ro_an g12 hz, fr_ne (by omega), fr_ne (by omega), p1 _ _ (by omega)]
      exact h12
    rw [a3, a4, ← Int32.ofNat_add, ro_pn g12 hy]
  rw [e]
  refine ⟨fun x hx => ⟨?_, ?_, ?_, ?_, ?_, fun j hj => ?_⟩, ?_, ?_, ?_, ?_, ?_, fun j hj hz => ?_⟩
  · rw [fr_ne (by omega), fr_ne (by omega), fr_ne (by omega), p1 _ _ (by omega)]
  · rw [fr_ne (by omega), fr_ne (by omega), fr_ne (by omega), p1 _ _ (by omega)]
  · rw [fr_ne (by omega), fr_ne (by omega), fr_ne (by omega), p1 _ _ (by omega)]
  · rw [fr_ne (by omega), fr_ne (by omega), fr_ne (by omega), p1 _ _ (by omega)]
  · rw [fr_ne (by omega), fr_ne (by omega), fr_ne (by omega), p1 _ _ (by omega)]
  · rw [fr_ne (by omega), fr_ne (by omega), fr_ne (by omega)]
    by_cases h4 : zs.length < 4
    · exact p1 _ _ (by omega)
    · rw [← hS1, if_neg (fun q => h4 ((mo_lt (m := 4) (b := 4) (by omega) (by omega) rfl).mp q))]
  · rw [fr_ne (by omega), fr_ne (by omega), fr_ne (by omega), p1 _ _ (by omega)]
    exact o2
  · rw [fr_ne (by omega), fr_ne (by omega), fr_ne (by omega), p1 _ _ (by omega)]
    exact o4
  · rw [fr_ne (by omega), fr_ne (by omega), fr_e (by omega), List.length_append]
    rfl
  · rw [fr_ne (by omega), fr_e (by omega)]
  · rw [fr_e (by omega)]
  · rw [fr_ne (by omega), fr_ne (by omega), fr_ne (by omega)]
    have hz : j < zs.length + 1 := by rw [List.length_append] at hz; exact hz
    by_cases hj2 : j < zs.length
    · rw [p1 _ _ (by omega), List.getElem_append_left hj2]
      exact o8 j hj hj2
    · have ej : j = zs.length := by omega
      subst ej
      rw [p2 hj, List.getElem_append_right (Nat.le_refl _)]
      simp
/-- the tree that stands at y, between lo and hi -/
def nd_t (t : Nat) (S : wd_S) (lo hi : Nat) : Nat → Nat → tr_T → Prop
  | 0, _, _ => False
  | d + 1, y, T => lo ≤ y ∧ y < hi ∧ S.1 (t + 2) y = tr_k T ∧ S.1 (t + 4) y = tr_v T ∧ S.1 (t + 6) y = Int32.ofNat (tr_a T) ∧ ∀ j, j < 4 → j < tr_a T → ∃ z, S.1 (t + 8) (4 * y + j) = Int32.ofNat z ∧ nd_t t S lo hi d z (tr_sub T j)
theorem nd_t_g {t lo hi : Nat} {S S' : wd_S} (h : nd_g t (fun x => lo ≤ x ∧ x < hi) S S') : ∀ (d y : Nat) (T : tr_T), nd_t t S lo hi d y T → nd_t t S' lo hi d y T := by
  intro d
  induction d with
  | zero => intro y T h; exact h
  | succ d ih =>
    intro y T hT
    obtain ⟨h1, h2, h3, h4, h5, h6⟩ := hT
    obtain ⟨a1, a2, a3, -, -, a6⟩ := h y ⟨h1, h2⟩
    refine ⟨h1, h2, a1.trans h3, a2.trans h4, a3.trans h5, fun j hj hja => ?_⟩
    obtain ⟨z, e, hz⟩ := h6 j hj hja
    exact ⟨z, (a6 j hj).trans e, ih z _ hz⟩
theorem nd_t_r {t lo hi lo' hi' : Nat} {S : wd_S} (hl : lo' ≤ lo) (hh : hi ≤ hi') : ∀ (d y : Nat) (T : tr_T), nd_t t S lo hi d y T → nd_t t S lo' hi' d y T := by
  intro d
  induction d with
  | zero => intro y T h; exact h
  | succ d ih =>
    intro y T hT
    obtain ⟨h1, h2, h3, h4, h5, h6⟩ := hT
    refine ⟨by omega, by omega, h3, h4, h5, fun j hj hja => ?_⟩
    obtain ⟨z, e, hz⟩ := h6 j hj hja
    exact ⟨z, e, ih z _ hz⟩
theorem nd_t_s {t lo hi : Nat} {S : wd_S} : ∀ (d y : Nat) (T : tr_T), nd_t t S lo hi d y T → nd_t t S lo hi (d + 1) y T := by
  intro d
  induction d with
  | zero => intro y T h; exact absurd h id
  | succ d ih =>
    intro y T hT
    obtain ⟨h1, h2, h3, h4, h5, h6⟩ := hT
    refine ⟨h1, h2, h3, h4, h5, fun j hj hja => ?_⟩
    obtain ⟨z, e, hz⟩ := h6 j hj hja
    exact ⟨z, e, ih z _ hz⟩
theorem nd_t_le {t lo hi d e y : Nat} {S : wd_S} {T : tr_T} (h : nd_t t S lo hi d y T) (hde : d ≤ e) : nd_t t S lo hi e y T := by
  induction hde with
  | refl => exact h
  | step _ ih => exact nd_t_s _ _ _ ih
theorem nd_t_mk {t lo hi d y : Nat} {S : wd_S} {k v : Int32} {zs : List Nat} {sz lt o : Nat} {f : Nat → tr_T} (h1 : lo ≤ y) (h2 : y < hi) (ho : nd_o t S y k v zs sz lt) (hz : ∀ j, (hj : j < zs.length) → nd_t t S lo hi d zs[j] (f j)) : nd_t t S lo hi (d + 1) y (tr_mk k v o zs.length f) := by
  obtain ⟨o2, o4, o6, -, -, o8⟩ := ho
  exact ⟨h1, h2, o2, o4, o6, fun j hj hja => ⟨zs[j], o8 j hj hja, hz j hja⟩⟩
/-- the calls among k nodes from c on -/
def nd_c (t : Nat) (S : wd_S) : Nat → Nat → List (Int32 × Int32)
  | 0, _ => []
  | k + 1, c => if S.1 (t + 2) c = 5 then (S.1 (t + 4) c, S.1 (t + 6) c) :: nd_c t S k (c + 1) else nd_c t S k (c + 1)
theorem nd_c_s {t : Nat} {S : wd_S} {k c : Nat} : nd_c t S (k + 1) c = if S.1 (t + 2) c = 5 then (S.1 (t + 4) c, S.1 (t + 6) c) :: nd_c t S k (c + 1) else nd_c t S k (c + 1) := rfl
theorem nd_c_g {t : Nat} {S S' : wd_S} : ∀ (k c : Nat), nd_g t (fun x => c ≤ x ∧ x < c + k) S S' → nd_c t S' k c = nd_c t S k c := by
  intro k
  induction k with
  | zero => intro c _; rfl
  | succ k ih =>
    intro c h
    obtain ⟨a1, a2, a3, -, -, -⟩ := h c ⟨Nat.le_refl _, by omega⟩
    rw [nd_c_s, nd_c_s, a1, a2, a3, ih (c + 1) (nd_mono (fun x hx => ⟨by omega, by omega⟩) h)]
theorem nd_c_a {t : Nat} {S : wd_S} : ∀ (k l c : Nat), nd_c t S (k + l) c = nd_c t S k c ++ nd_c t S l (c + k) := by
  intro k
  induction k with
  | zero => intro l c; rw [Nat.zero_add]; rfl
  | succ k ih =>
    intro l c
    rw [show k + 1 + l = (k + l) + 1 by omega]
    rw [nd_c_s, nd_c_s, ih l (c + 1), show c + 1 + k = c + (k + 1) by omega]
    split
    · rfl
    · rfl
theorem nd_c_1 {t c : Nat} {S : wd_S} (h : ¬S.1 (t + 2) c = 5) : nd_c t S 1 c = [] := if_neg h
def ps_cl (M : List (Nat × Nat)) : List (Int32 × Int32) := M.filterMap (fun q => if q.2 = 0 then none else some (Int32.ofNat q.1, Int32.ofNat (q.2 - 1)))
theorem ps_cl_a (M N : List (Nat × Nat)) : ps_cl (M ++ N) = ps_cl M ++ ps_cl N := List.filterMap_append
