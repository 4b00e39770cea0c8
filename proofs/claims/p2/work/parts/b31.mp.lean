/-! The reference's printing: bytes, figures, words of eight bytes. -/
def mp_o (n : Nat) (l : List Int32) (S S' : wd_S) : Prop := of_f (fun a b => (a = 135 ∧ b = 88) ∨ (a = 176 ∧ n ≤ b ∧ b < n + l.length)) S S' ∧ S'.1 135 88 = Int32.ofNat (n + l.length) ∧ ∀ j, (hj : j < l.length) → S'.1 176 (n + j) = l[j]
def mp_f (l : List Int32) (f : wd_S → Option wd_S) : Prop := ∀ (n : Nat) (S : wd_S), S.1 135 88 = Int32.ofNat n → n + l.length ≤ 40000 → ∃ S', f S = some S' ∧ mp_o n l S S'
def pr_8c (x : Int64) (i : Int32) : List Int32 := if ((x >>> (i.toInt64 &&& 63)) &&& 255).toInt32 = 0 then [] else [((x >>> (i.toInt64 &&& 63)) &&& 255).toInt32]
def pr_8 (x : Int64) : List Int32 := pr_8c x 56 ++ (pr_8c x 48 ++ (pr_8c x 40 ++ (pr_8c x 32 ++ (pr_8c x 24 ++ (pr_8c x 16 ++ (pr_8c x 8 ++ (pr_8c x 0 ++ [])))))))
section Mp
variable {n m k : Nat} {l l1 l2 : List Int32} {S S' S1 S2 : wd_S} {f g : wd_S → Option wd_S} {x : Int32} {e : Int64}
theorem mp_cat (h1 : mp_o n l1 S S1) (h2 : mp_o (n + l1.length) l2 S1 S2) : mp_o n (l1 ++ l2) S S2 := by
  obtain ⟨a1, a2, a3⟩ := h1
  obtain ⟨b1, b2, b3⟩ := h2
  have el : (l1 ++ l2).length = l1.length + l2.length := List.length_append
  refine ⟨of_trans (of_mono (fun a b q => by omega) a1) (of_mono (fun a b q => by omega) b1), by rw [b2, el, Nat.add_assoc], fun j hj => ?_⟩
  rw [el] at hj
  by_cases e : j < l1.length
  · rw [List.getElem_append_left e, b1.1 176 (n + j) (by omega)]
    exact a3 j e
  · rw [List.getElem_append_right (by omega)]
    have := b3 (j - l1.length) (by omega)
    rw [show n + l1.length + (j - l1.length) = n + j by omega] at this
    exact this
theorem mp_nil : mp_f [] (fun S => some S) := fun n S h5 _ => ⟨S, rfl, of_refl, h5, fun j hj => absurd hj (Nat.not_lt_zero _)⟩
theorem mp_seq (hf : mp_f l1 f) (hg : mp_f l2 g) : mp_f (l1 ++ l2) (fun S => wd_d (f S) g) := fun n S h5 hn => by
  rw [List.length_append] at hn
  obtain ⟨S1, f1, o1⟩ := hf n S h5 (by omega)
  obtain ⟨S2, f2, o2⟩ := hg (n + l1.length) S1 o1.2.1 (by omega)
  exact ⟨S2, by show wd_d (f S) g = _; rw [f1, wd_d_s, f2], mp_cat o1 o2⟩
theorem mp_lay : mp_f [x] (fn_Mo_lay x) := fun n S h5 hn => by
  have hn : n + 1 ≤ 40000 := hn
  unfold fn_Mo_lay fn_Mo_lay_19
  simp only [wd_b]
  rw [h5, if_pos (show Int32.ofNat n < 40000 from (im_lt (m := n) (n := 40000) (by omega) (by omega)).mpr (by omega)), if_neg (ms_in (show n < 40000 by omega) (by decide)), im_t (show n < 2147483648 by omega), fr_ne (show ¬(135 = 176 ∧ _) by omega), h5, im_s]
  refine ⟨_, rfl, of_i (by omega) (of_i (by show _ ∨ (176 = 176 ∧ n ≤ n ∧ n < n + 1); omega) of_refl), fr_eq, fun j hj => ?_⟩
  have hj : j = 0 := by have : j < 1 := hj; omega
  subst hj
  rw [fr_ne (by omega), fr_e (by omega)]
  rfl
theorem mp_18 (hm : m < 2147483648) : ∀ (k F : Nat), k < 10 → k + 2 ≤ F → mp_f (pr_d m k) (fn_Mo_figures_18 F (Int32.ofNat m) (Int32.ofNat (10 ^ k))) := by
  have e38 : ∀ (k F : Nat) (S : wd_S), k < 10 → fn_Mo_figures_18 (F + 1) (Int32.ofNat m) (Int32.ofNat (10 ^ k)) S = wd_d (fn_Mo_lay (48 + Int32.ofNat (m / 10 ^ k % 10)) S) (fn_Mo_figures_18 F (Int32.ofNat m) (Int32.ofNat (10 ^ k / 10))) := fun k F S hk => by
    have hp := pr_10 k hk
    have h0 : 0 < 10 ^ k := Nat.pow_pos (by decide)
    have hq : m / 10 ^ k < 2147483648 := Nat.lt_of_le_of_lt (Nat.div_le_self _ _) hm
    rw [fn_Mo_figures_18, if_pos (show (0 : Int32) < Int32.ofNat (10 ^ k) from (im_lt (m := 0) (by omega) hp).mpr h0), if_neg (fun q => by have := (im_eq (m := 10 ^ k) (n := 0) hp (by omega)).mp q; omega), im_div hm hp, im_mod hq, show (10 : Int32) = Int32.ofNat 10 from rfl, im_div hp (by decide)]
  intro k
  induction k with
  | zero =>
    intro F _ hF
    obtain ⟨F, rfl⟩ : ∃ q, F = q + 1 + 1 := ⟨F - 2, by omega⟩
    intro n S h5 hn
    obtain ⟨S', f', o'⟩ := mp_seq (mp_lay (x := 48 + Int32.ofNat (m / 10 ^ 0 % 10))) mp_nil n S h5 hn
    have e0 : m / 10 ^ 0 % 10 = m % 10 := by rw [Nat.pow_zero, Nat.div_one]
    rw [e0] at f' o'
    refine ⟨S', ?_, o'⟩
    have ez : fn_Mo_figures_18 (F + 1) (Int32.ofNat m) (Int32.ofNat (10 ^ 0 / 10)) = fun S => some S := funext fun S => by
      rw [fn_Mo_figures_18, if_neg (show ¬(0 : Int32) < Int32.ofNat (10 ^ 0 / 10) by decide)]
    rw [e38 0 (F + 1) S (by decide), e0, ez]
    exact f'
  | succ k ih =>
    intro F hk hF
    obtain ⟨F, rfl⟩ : ∃ q, F = q + 1 := ⟨F - 1, by omega⟩
    have h10 : 10 ^ (k + 1) / 10 = 10 ^ k := by rw [Nat.pow_succ, Nat.mul_div_cancel _ (by decide)]
    intro n S h5 hn
    obtain ⟨S', f', o'⟩ := mp_seq (mp_lay (x := 48 + Int32.ofNat (m / 10 ^ (k + 1) % 10))) (ih F (by omega) (by omega)) n S h5 hn
    refine ⟨S', ?_, o'⟩
    rw [e38 (k + 1) F S hk, h10]
    exact f'
theorem mp_2 (hm : m < 2147483648) : ∀ (q k F : Nat), k + q = pr_k m 9 → q < F → fn_Mo_figures_2 F (Int32.ofNat m) (Int32.ofNat (10 ^ k)) S = fn_Mo_figures_18 wd_F (Int32.ofNat m) (Int32.ofNat (10 ^ pr_k m 9)) S := by
  obtain ⟨p1, p2⟩ := pr_k_ok (n := m) 9 (by omega)
  have p3 := pr_k_le m 9
  intro q
  induction q with
  | zero =>
    intro k F hk hF
    have hk : k = pr_k m 9 := hk
    subst hk
    obtain ⟨F, rfl⟩ : ∃ q, F = q + 1 := ⟨F - 1, by omega⟩
    have hp := pr_10 (pr_k m 9) (by omega)
    have h0 : 0 < 10 ^ pr_k m 9 := Nat.pow_pos (by decide)
    have hq : m / 10 ^ pr_k m 9 < 10 := (Nat.div_lt_iff_lt_mul h0).mpr (by rw [Nat.pow_succ] at p2; omega)
    rw [fn_Mo_figures_2, if_neg (fun q => by have := (im_eq (m := 10 ^ pr_k m 9) (n := 0) hp (by omega)).mp q; omega), im_div hm hp, if_neg (show ¬(9 : Int32) < Int32.ofNat (m / 10 ^ pr_k m 9) from fun q => by have := (im_lt (m := 9) (by omega) (by omega)).mp q; omega)]
  | succ q ih =>
    intro k F hk hF
    obtain ⟨F, rfl⟩ : ∃ q, F = q + 1 := ⟨F - 1, by omega⟩
    have hp := pr_10 k (by omega)
    have h0 : 0 < 10 ^ k := Nat.pow_pos (by decide)
    have hge : 10 ^ pr_k m 9 ≤ m := by
      rcases p1 with z | z
      · omega
      · exact z
    have hle : 10 ^ (k + 1) ≤ 10 ^ pr_k m 9 := Nat.pow_le_pow_right (by decide) (by omega)
    have hle : 10 ^ k * 10 ≤ m := by rw [Nat.pow_succ] at hle; omega
    have hq : 10 ≤ m / 10 ^ k := (Nat.le_div_iff_mul_le h0).mpr (by omega)
    have hqm : m / 10 ^ k < 2147483648 := Nat.lt_of_le_of_lt (Nat.div_le_self _ _) hm
    rw [fn_Mo_figures_2, if_neg (fun q => by have := (im_eq (m := 10 ^ k) (n := 0) hp (by omega)).mp q; omega), im_div hm hp, if_pos (show (9 : Int32) < Int32.ofNat (m / 10 ^ k) from (im_lt (m := 9) (by omega) hqm).mpr (by omega)), show Int32.ofNat (10 ^ k) * (10 : Int32) = Int32.ofNat (10 ^ (k + 1)) by rw [show (10 : Int32) = Int32.ofNat 10 from rfl, ← Int32.ofNat_mul, Nat.pow_succ]]
    exact ih (k + 1) F (by omega) (by omega)
theorem mp_num (hm : m < 2147483648) : mp_f (pr_n m) (fn_Mo_figures (Int32.ofNat m)) := fun n S h5 hn => by
  have p3 := pr_k_le m 9
  obtain ⟨S', f', o'⟩ := mp_18 hm (pr_k m 9) wd_F (by omega) (by rw [show wd_F = 1000000 from rfl]; omega) n S h5 hn
  refine ⟨S', ?_, o'⟩
  have := mp_2 (S := S) hm (pr_k m 9) 0 wd_F (Nat.zero_add _) (by rw [show wd_F = 1000000 from rfl]; omega)
  have : fn_Mo_figures (Int32.ofNat m) S = fn_Mo_figures_18 wd_F (Int32.ofNat m) (Int32.ofNat (10 ^ pr_k m 9)) S := this
  rw [this, f']
theorem mp_8s {i : Int32} {F : Nat} (hi : ¬i < 0) {i' : Int32} (e' : i + -8 = i') (hk : mp_f l (fn_Mo_layAll_3 F e i')) : mp_f (pr_8c e i ++ l) (fn_Mo_layAll_3 (F + 1) e i) := fun n S h5 hn => by
  subst e'
  unfold pr_8c at hn ⊢
  rw [fn_Mo_layAll_3, if_neg hi]
  unfold fn_Mo_layAll_28
  by_cases c : ((e >>> (i.toInt64 &&& 63)) &&& 255).toInt32 = 0
  · rw [if_pos c] at hn ⊢
    rw [if_pos c]
    exact hk n S h5 hn
  · rw [if_neg c] at hn ⊢
    rw [if_neg c]
    exact mp_seq mp_lay hk n S h5 hn
theorem mp_all : mp_f (pr_8 e) (fn_Mo_layAll e) := by
  have e0 : ∀ F, mp_f [] (fn_Mo_layAll_3 (F + 1) e (-8)) := fun F n S h5 hn => by
    rw [fn_Mo_layAll_3, if_pos (show (-8 : Int32) < 0 by decide)]
    exact mp_nil n S h5 hn
  have h8 := mp_8s (i := 56) (F := 999999) (i' := 48) (e := e) (by decide) (by decide) (mp_8s (i := 48) (F := 999998) (i' := 40) (by decide) (by decide) (mp_8s (i := 40) (F := 999997) (i' := 32) (by decide) (by decide) (mp_8s (i := 32) (F := 999996) (i' := 24) (by decide) (by decide) (mp_8s (i := 24) (F := 999995) (i' := 16) (by decide) (by decide) (mp_8s (i := 16) (F := 999994) (i' := 8) (by decide) (by decide) (mp_8s (i := 8) (F := 999993) (i' := 0) (by decide) (by decide) (mp_8s (i := 0) (F := 999992) (i' := -8) (by decide) (by decide) (e0 999991))))))))
  exact h8
theorem mp_lnum {v : Int32} : mp_f (pr_i v) (fn_Mo_layNumber v) := by
  intro n S h5 hn
  unfold fn_Mo_layNumber fn_Mo_layNumber_62 fn_Mo_layNumber_73 fn_Mo_layNumber_76
  simp only [wd_d_id]
  unfold pr_i at hn ⊢
  by_cases h1 : v = -2147483648
  · rw [if_pos h1] at hn ⊢
    rw [if_pos h1]
    have hx : pr_x 20 = [40] ++ ([45] ++ (pr_n 2147483647 ++ (pr_8 539828273 ++ [41]))) := by decide +kernel
    rw [hx] at hn ⊢
    have ee : ∀ S, fn_Mo_eight 0 0 32 45 32 49 S = some (539828273, S) := fun S => by
      unfold fn_Mo_eight
      congr 2
    have h := mp_seq (mp_lay (x := 40)) (mp_seq (mp_lay (x := 45)) (mp_seq (mp_num (m := 2147483647) (by decide)) (mp_seq (mp_all (e := 539828273)) (mp_lay (x := 41))))) n S h5 hn
    obtain ⟨S', f', o'⟩ := h
    refine ⟨S', ?_, o'⟩
    rw [← f']
    simp only [ee, wd_c_s]
    rfl
  · rw [if_neg h1] at hn ⊢
    rw [if_neg h1]
    by_cases h2 : v < 0
    · rw [if_pos h2] at hn ⊢
      rw [if_pos h2]
      simp only [if_pos h2]
      have e := im_of (im_neg_n h1 h2)
      have h := mp_seq (mp_lay (x := 45)) (mp_num (im_tl (-v))) n S h5 hn
      rw [e] at h
      exact h
    · rw [if_neg h2] at hn ⊢
      rw [if_neg h2, if_neg h2]
      have h := mp_num (im_tl v) n S h5 hn
      rw [im_of h2] at h
      exact h
end Mp
