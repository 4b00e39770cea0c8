/-! How long a print is. -/
def tr_sm (g : Nat → Nat) : Nat → Nat
  | 0 => 0
  | n + 1 => tr_sm g n + g n
def tr_sz : Nat → tr_T → Nat
  | 0, _ => 0
  | d + 1, t => 1 + tr_sm (fun j => tr_sz d (tr_sub t j)) (tr_a t)
def pr_G (s : pr_S) (n : Nat) (x : pr_O) : Prop := ∃ l s', x = some (l, s') ∧ (∀ i j, s.2 i = some j → ∃ k, s'.2 i = some k) ∧ l.length ≤ n
section Wf3
variable {pn d l n m : Nat} {ar : Nat → Nat} {fr : Prop} {B : Nat → Prop} {t : tr_T} {s : pr_S} {x : pr_O} {f : pr_S → pr_O}
theorem pr_Gb (h : pr_G s n x) (hf : ∀ s', (∀ i j, s.2 i = some j → ∃ k, s'.2 i = some k) → pr_G s' m (f s')) : pr_G s (n + m) (pr_b x f) := by
  obtain ⟨l1, s1, rfl, h1, h2⟩ := h
  obtain ⟨l2, s2, e2, h3, h4⟩ := hf s1 h1
  refine ⟨l1 ++ l2, s2, ?_, fun i j hij => ?_, by rw [List.length_append]; omega⟩
  · unfold pr_b
    dsimp only
    rw [e2]
  · obtain ⟨k, hk⟩ := h1 i j hij
    exact h3 i k hk
theorem pr_Gm (h : pr_G s n x) (hnm : n ≤ m) : pr_G s m x := by
  obtain ⟨l1, s1, e, h1, h2⟩ := h
  exact ⟨l1, s1, e, h1, by omega⟩
theorem pr_G0 {k : List Int32} (h : k.length ≤ n) : pr_G s n (some (k, s)) := ⟨k, s, rfl, fun i j h => ⟨j, h⟩, h⟩
def pr_D (pn : Nat) (B : Nat → Prop) (s : pr_S) : Prop := ∀ i, B i → i < pn ∨ ∃ j, s.2 i = some j
theorem pr_D_g {s' : pr_S} (h : pr_D pn B s) (g : ∀ i j, s.2 i = some j → ∃ k, s'.2 i = some k) : pr_D pn B s' := fun i hi => by
  rcases h i hi with q | ⟨j, q⟩
  · exact Or.inl q
  · exact Or.inr (g i j q)
theorem pr_as_nn {self : pr_S → tr_T → pr_O} {g : Nat → Nat} {a : Nat} (hs : ∀ j, j < a → ∀ s, pr_D pn B s → pr_G s (24 * g j) (self s (tr_sub t j))) : ∀ (q j : Nat) (s : pr_S), q + j = a → pr_D pn B s → ∃ n, pr_G s n (pr_as self t q j s) ∧ n + 24 * tr_sm g j = 24 * tr_sm g a + 2 * q + 1 := by
  intro q
  induction q with
  | zero =>
    intro j s hj hD
    rw [show j = a by omega]
    exact ⟨1, pr_G0 (Nat.le_refl 1), by omega⟩
  | succ q ih =>
    intro j s hj hD
    have e17 : (pr_x 17).length = 2 := by decide +kernel
    have hg : tr_sm g (j + 1) = tr_sm g j + g j := rfl
    have hle : ∀ q i, i + q = a → tr_sm g i ≤ tr_sm g a := by
      intro q
      induction q with
      | zero => intro i hi; rw [show i = a by omega]; exact Nat.le_refl _
      | succ q ih =>
        intro i hi
        have := ih (i + 1) (by omega)
        have e : tr_sm g (i + 1) = tr_sm g i + g i := rfl
        omega
    have hja := hle q (j + 1) (by omega)
    refine ⟨2 + (24 * g j + (24 * tr_sm g a + 2 * q + 1 - 24 * tr_sm g (j + 1))), ?_, by omega⟩
    show pr_G s _ (pr_b (some (if j = 0 then [] else pr_x 17, s)) fun s => pr_b (self s (tr_sub t j)) fun s => pr_as self t q (j + 1) s)
    refine pr_Gb (pr_G0 ?_) (fun s1 h1 => pr_Gb (hs j (by omega) s1 (pr_D_g hD h1)) (fun s2 h2 => ?_))
    · split
      · exact Nat.zero_le _
      · rw [e17]; exact Nat.le_refl _
    · obtain ⟨n, n1, n2⟩ := ih (j + 1) s2 (by omega) (pr_D_g (pr_D_g hD h1) h2)
      exact pr_Gm n1 (by omega)
/-- a tree as it should be is printed, with no more than 24 bytes a node -/
theorem pr_nn (hl : l ≤ 78) : ∀ (r : Nat) (s : pr_S) (t : tr_T) (B : Nat → Prop), wf_t fr l ar r B t → pr_D pn B s → pr_G s (24 * tr_sz r t) (pr pn r s t) := by
  intro r
  induction r with
  | zero => intro s t B ht _; exact ht.elim
  | succ r ih =>
    intro s t B ht hD
    have ht : wf_b fr l ar (wf_t fr l ar r) B t := ht
    have ok : ev_ok 78 t := by
      have := wf_ok ht
      rcases this with h | h | h | h | ⟨a1, a2, a3, a4⟩ | h
      · exact Or.inl h
      · exact Or.inr (Or.inl h)
      · exact Or.inr (Or.inr (Or.inl h))
      · exact Or.inr (Or.inr (Or.inr (Or.inl h)))
      · exact Or.inr (Or.inr (Or.inr (Or.inr (Or.inl ⟨a1, a2, a3, by omega⟩))))
      · exact Or.inr (Or.inr (Or.inr (Or.inr (Or.inr h))))
    have esz : tr_sz (r + 1) t = 1 + tr_sm (fun j => tr_sz r (tr_sub t j)) (tr_a t) := rfl
    show pr_G s (24 * tr_sz (r + 1) t) (pr_in pn (pr pn r) s t)
    rw [esz]
    unfold pr_in
    rw [if_pos ok]
    rcases ht with h | ⟨a1, a2, a3, a4⟩ | ⟨a1, a2, a3, a4, a5, a6, a7⟩ | ⟨a1, a2, a3, a4, a5⟩ | ⟨a1, a2, a3, a4, a5, a6⟩ | ⟨a1, a2, a3, a4⟩
    · rw [if_pos h]
      exact pr_G0 (by have := pr_i_l (tr_v t); omega)
    · rw [a1, if_neg (show ¬(2 : Int32) = 1 by decide), if_pos rfl]
      by_cases e : tr_n t < pn
      · rw [if_pos e]
        exact pr_G0 (by show 1 ≤ _; omega)
      · rw [if_neg e]
        obtain ⟨j, hj⟩ := (hD _ a4).resolve_left e
        rw [hj]
        exact pr_G0 (by show (pr_n j).length + 1 ≤ _; have := pr_n_l j; omega)
    · rw [a1, if_neg (show ¬(3 : Int32) = 1 by decide), if_neg (show ¬(3 : Int32) = 2 by decide), if_pos rfl, a4]
      have l21 : (pr_x 21).length = 6 := by decide +kernel
      have l22 : (pr_x 22).length = 3 := by decide +kernel
      have l23 : (pr_x 23).length = 4 := by decide +kernel
      have e2 : tr_sm (fun j => tr_sz r (tr_sub t j)) 2 = 0 + tr_sz r (tr_sub t 0) + tr_sz r (tr_sub t 1) := rfl
      have h0 : pr_G s 19 (some (pr_x 21 ++ pr_n s.1 ++ pr_x 22, s.1 + 1, pr_u s.2 (tr_n t) s.1)) := by
        refine ⟨_, _, rfl, fun i j hij => ?_, ?_⟩
        · show ∃ k, pr_u s.2 (tr_n t) s.1 i = some k
          unfold pr_u
          by_cases e : i = tr_n t
          · exact ⟨_, if_pos e⟩
          · exact ⟨j, by rw [if_neg e]; exact hij⟩
        · rw [List.length_append, List.length_append, l21, l22]
          have := pr_n_l s.1
          omega
      refine pr_Gm (n := 19 + (24 * tr_sz r (tr_sub t 0) + (4 + (24 * tr_sz r (tr_sub t 1) + 1)))) ?_ (by rw [e2]; omega)
      obtain ⟨k0, s0, e0, g0, n0⟩ := h0
      have hs0 : s0 = (s.1 + 1, pr_u s.2 (tr_n t) s.1) := by cases e0; rfl
      have hu : ∃ k, s0.2 (tr_n t) = some k := ⟨s.1, by rw [hs0]; exact if_pos rfl⟩
      rw [e0]
      obtain ⟨k1, s1, e1, g1, n1⟩ : pr_G s0 (24 * tr_sz r (tr_sub t 0) + (4 + (24 * tr_sz r (tr_sub t 1) + 1))) (pr_b (pr pn r s0 (tr_sub t 0)) fun s => pr_b (some (pr_x 23, s)) fun s => pr_b (pr pn r s (tr_sub t 1)) fun s => some ([41], s)) := by
        refine pr_Gb (ih s0 _ B a6 (pr_D_g hD g0)) (fun s1 h1 => pr_Gb (pr_G0 (by rw [l23]; exact Nat.le_refl _)) (fun s2 h2 => pr_Gb (ih s2 _ _ a7 (fun i hi => ?_)) (fun s3 h3 => pr_G0 (Nat.le_refl 1))))
        rcases hi with hi | hi
        · exact pr_D_g (pr_D_g (pr_D_g hD g0) h1) h2 i hi
        · obtain ⟨k, hk⟩ := hu
          obtain ⟨k', hk'⟩ := h1 _ _ hk
          rw [hi]
          exact Or.inr (h2 _ _ hk')
      refine ⟨k0 ++ k1, s1, ?_, fun i j hij => ?_, by rw [List.length_append]; omega⟩
      · unfold pr_b at e1 ⊢
        dsimp only
        dsimp only at e1
        rw [e1]
      · obtain ⟨k, hk⟩ := g0 i j hij
        exact g1 i k hk
    · rw [a1, if_neg (show ¬(4 : Int32) = 1 by decide), if_neg (show ¬(4 : Int32) = 2 by decide), if_neg (show ¬(4 : Int32) = 3 by decide), if_pos rfl, a2]
      have l24 : (pr_x 24).length = 4 := by decide +kernel
      have l25 : (pr_x 25).length = 6 := by decide +kernel
      have l26 : (pr_x 26).length = 6 := by decide +kernel
      have e2 : tr_sm (fun j => tr_sz r (tr_sub t j)) 3 = 0 + tr_sz r (tr_sub t 0) + tr_sz r (tr_sub t 1) + tr_sz r (tr_sub t 2) := rfl
      refine pr_Gm (n := 4 + (24 * tr_sz r (tr_sub t 0) + (6 + (24 * tr_sz r (tr_sub t 1) + (6 + (24 * tr_sz r (tr_sub t 2) + 1)))))) ?_ (by rw [e2]; omega)
      refine pr_Gb (pr_G0 (by rw [l24]; exact Nat.le_refl _)) (fun s1 h1 => ?_)
      have d1 := pr_D_g hD h1
      refine pr_Gb (ih s1 _ B a3 d1) (fun s2 h2 => ?_)
      have d2 := pr_D_g d1 h2
      refine pr_Gb (pr_G0 (by rw [l25]; exact Nat.le_refl _)) (fun s3 h3 => ?_)
      have d3 := pr_D_g d2 h3
      refine pr_Gb (ih s3 _ B a4 d3) (fun s4 h4 => ?_)
      have d4 := pr_D_g d3 h4
      refine pr_Gb (pr_G0 (by rw [l26]; exact Nat.le_refl _)) (fun s5 h5 => ?_)
      exact pr_Gb (ih s5 _ B a5 (pr_D_g d4 h5)) (fun s6 h6 => pr_G0 (Nat.le_refl 1))
    · rw [a1, if_neg (show ¬(5 : Int32) = 1 by decide), if_neg (show ¬(5 : Int32) = 2 by decide), if_neg (show ¬(5 : Int32) = 3 by decide), if_neg (show ¬(5 : Int32) = 4 by decide), if_pos rfl]
      refine pr_Gm (n := 12 + (24 * tr_sm (fun j => tr_sz r (tr_sub t j)) (tr_a t) + 2 * tr_a t + 1)) ?_ (by omega)
      refine pr_Gb (pr_G0 ?_) (fun s1 h1 => ?_)
      · rw [List.length_append]
        show (pr_n (tr_n t)).length + 1 + 1 ≤ 12
        have := pr_n_l (tr_n t)
        omega
      · obtain ⟨n, n1, n2⟩ := pr_as_nn (g := fun j => tr_sz r (tr_sub t j)) (fun j hj s hs => ih s _ B (a6 j hj) hs) (tr_a t) 0 s1 rfl (pr_D_g hD h1)
        have e0 : tr_sm (fun j => tr_sz r (tr_sub t j)) 0 = 0 := rfl
        exact pr_Gm n1 (by omega)
    · have nk : ¬tr_k t = 1 ∧ ¬tr_k t = 2 ∧ ¬tr_k t = 3 ∧ ¬tr_k t = 4 ∧ ¬tr_k t = 5 := by
        rcases a1 with z | z | z | z | z <;> rw [z] <;> decide
      rw [if_neg nk.1, if_neg nk.2.1, if_neg nk.2.2.1, if_neg nk.2.2.2.1, if_neg nk.2.2.2.2, a2]
      have e2 : tr_sm (fun j => tr_sz r (tr_sub t j)) 2 = 0 + tr_sz r (tr_sub t 0) + tr_sz r (tr_sub t 1) := rfl
      have lx : (pr_x (pr_sx (tr_k t))).length ≤ 4 := by
        rcases a1 with z | z | z | z | z <;> rw [z] <;> decide +kernel
      refine pr_Gm (n := 1 + (24 * tr_sz r (tr_sub t 0) + (4 + (24 * tr_sz r (tr_sub t 1) + 1)))) ?_ (by rw [e2]; omega)
      refine pr_Gb (pr_G0 (Nat.le_refl 1)) (fun s1 h1 => ?_)
      have d1 := pr_D_g hD h1
      refine pr_Gb (ih s1 _ B a3 d1) (fun s2 h2 => ?_)
      have d2 := pr_D_g d1 h2
      refine pr_Gb (pr_G0 lx) (fun s3 h3 => ?_)
      exact pr_Gb (ih s3 _ B a4 (pr_D_g d2 h3)) (fun s4 h4 => pr_G0 (Nat.le_refl 1))
end Wf3
