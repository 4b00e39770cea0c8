/-! The reference's printing: any tree; versions. -/
section Mp5
variable {B pn k n m k' y z d r j g lo hi al ah i X a c : Nat} {l l0 l1 l2 : List Int32} {S0 S S' S1 S2 : wd_S} {t : tr_T} {s s' s0 s1 : pr_S} {x v : Int32} {e : Int64}
theorem pm_s (hB : B ≤ 1) (hh : hi ≤ 15010) (hah : ah ≤ 15010) (h93 : S0.1 135 93 = Int32.ofNat pn) (hpn : pn ≤ 16) (hS : pm_S S0 (80 * B) lo hi al ah pn r) : pm_S S0 (80 * B) lo hi al ah pn (r + 1) := by
  intro k n y d t s S l s' hp h165 h166 ht he hn hk
  have hE : pm_E S0 pn k n y s S (wd_i S 135 76 (Int32.ofNat k)) := pm_pope hp (by omega) h165 h166
  have he : pr_in pn (pr pn r) s t = some (l, s') := he
  unfold pr_in at he
  by_cases ok : ev_ok 78 t
  · rw [if_pos ok] at he
    obtain ⟨d, rfl⟩ : ∃ e, d = e + 1 := by
      cases d with
      | zero => exact ht.elim
      | succ d => exact ⟨d, rfl⟩
    obtain ⟨-, hy, hb⟩ := ht
    have hy : y < 15010 := by omega
    rcases hb with ⟨k1, -, b1, b2⟩ | ⟨k1, -, b1, b2, -⟩ | ⟨k1, -, b1, b2, -, z0, z1, b3, b4, b5, b6⟩ | ⟨k1, -, b1, z0, z1, z2, b2, b3, b4, b5, b6, b7⟩ | ⟨k1, b1, b2, b3, ⟨f, b4, b5⟩, g, b6, -, b8, b9⟩ | ⟨k1, -, b1, b2, z0, z1, b3, b4, b5, b6⟩
    · rw [if_pos k1] at he
      exact pm_num hS hE hy b1 b2 hk he hn
    · have q : tr_v t = Int32.ofNat (tr_n t) ∧ tr_n t < 16 := by
        rcases ok with q | ⟨-, q1, q2⟩ | ⟨q, -⟩ | ⟨q, -⟩ | ⟨q, -⟩ | ⟨q | q | q | q | q, -⟩
        · rw [k1] at q; exact absurd q (by decide)
        · exact ⟨q1, q2⟩
        all_goals (rw [k1] at q; exact absurd q (by decide))
      rw [k1, if_neg (show ¬(2 : Int32) = 1 by decide), if_pos rfl, q.1] at he
      exact pm_name hS h93 hpn hE hy b1 (b2.trans q.1) q.2 hk he hn
    · have q : tr_v t = Int32.ofNat (tr_n t) ∧ tr_n t < 16 := by
        rcases ok with q | ⟨q, -⟩ | ⟨-, q1, q2, -⟩ | ⟨q, -⟩ | ⟨q, -⟩ | ⟨q | q | q | q | q, -⟩
        · rw [k1] at q; exact absurd q (by decide)
        · rw [k1] at q; exact absurd q (by decide)
        · exact ⟨q1, q2⟩
        all_goals (rw [k1] at q; exact absurd q (by decide))
      rw [k1, if_neg (show ¬(3 : Int32) = 1 by decide), if_neg (show ¬(3 : Int32) = 2 by decide), if_pos rfl] at he
      exact pm_let hS hE hy b1 b3 b4 (b2.trans q.1) q.2 b5 b6 hk he hn
    · rw [k1, if_neg (show ¬(4 : Int32) = 1 by decide), if_neg (show ¬(4 : Int32) = 2 by decide), if_neg (show ¬(4 : Int32) = 3 by decide), if_pos rfl] at he
      exact pm_if hS hE hy b1 b2 b3 b4 b5 b6 b7 hk he hn
    · have q : tr_v t = Int32.ofNat (tr_n t) ∧ tr_n t < 78 := by
        rcases ok with q | ⟨q, -⟩ | ⟨q, -⟩ | ⟨q, -⟩ | ⟨-, -, q1, q2⟩ | ⟨q | q | q | q | q, -⟩
        · rw [k1] at q; exact absurd q (by decide)
        · rw [k1] at q; exact absurd q (by decide)
        · rw [k1] at q; exact absurd q (by decide)
        · rw [k1] at q; exact absurd q (by decide)
        · exact ⟨q1, q2⟩
        all_goals (rw [k1] at q; exact absurd q (by decide))
      rw [k1, if_neg (show ¬(5 : Int32) = 1 by decide), if_neg (show ¬(5 : Int32) = 2 by decide), if_neg (show ¬(5 : Int32) = 3 by decide), if_neg (show ¬(5 : Int32) = 4 by decide), if_pos rfl] at he
      have e146 : S0.1 146 y = Int32.ofNat (80 * B + tr_n t) := by
        rw [b5, Int32.ofNat_add, ← b4, q.1, ← Int32.ofNat_add]
      have hz : ∀ j, j < tr_a t → S0.1 149 (g + j) = Int32.ofNat (S0.1 149 (g + j)).toNatClampNeg ∧ mj_t S0 (80 * B) lo hi al ah d (S0.1 149 (g + j)).toNatClampNeg (tr_sub t j) := fun j hj => by
        obtain ⟨z, c1, c2⟩ := b9 j hj
        have hzl : z < 15010 := by
          cases d with
          | zero => exact c2.elim
          | succ d => have := c2.2.1; omega
        rw [c1, im_t (by omega)]
        exact ⟨rfl, c2⟩
      exact pm_call (zs := fun j => (S0.1 149 (g + j)).toNatClampNeg) hS hB hE hy b1 b6 b2 e146 q.2 b3 (by omega) (fun j hj => (hz j hj).1) (fun j hj => ⟨d, (hz j hj).2⟩) hk he hn
    · have nk : ¬tr_k t = 1 ∧ ¬tr_k t = 2 ∧ ¬tr_k t = 3 ∧ ¬tr_k t = 4 ∧ ¬tr_k t = 5 := by
        rcases k1 with z | z | z | z | z <;> rw [z] <;> decide
      rw [if_neg nk.1, if_neg nk.2.1, if_neg nk.2.2.1, if_neg nk.2.2.2.1, if_neg nk.2.2.2.2] at he
      exact pm_sgn hS hE hy k1 b1 b2 b3 b4 b5 b6 hk he hn
  · rw [if_neg ok] at he
    cases he
theorem pm_any (hB : B ≤ 1) (hh : hi ≤ 15010) (hah : ah ≤ 15010) (h93 : S0.1 135 93 = Int32.ofNat pn) (hpn : pn ≤ 16) : ∀ r, pm_S S0 (80 * B) lo hi al ah pn r := by
  intro r
  induction r with
  | zero =>
    intro k n y d t s S l s' _ _ _ _ he _ _
    cases he
  | succ r ih => exact pm_s hB hh hah h93 hpn ih
/-- how many parameters are left -/
theorem mk_left : ∀ m, m < 16 → ∀ n, n < 5 → m < 2 ^ n → Int32.ofNat n - ((Int32.ofNat m >>> ((0 : Int32) &&& 31)) &&& 1) - ((Int32.ofNat m >>> ((1 : Int32) &&& 31)) &&& 1) - ((Int32.ofNat m >>> ((2 : Int32) &&& 31)) &&& 1) - ((Int32.ofNat m >>> ((3 : Int32) &&& 31)) &&& 1) = Int32.ofNat (mk_lf m n) := by decide +kernel
theorem mo_left {p : Nat} (hp : p < 160) (hg : g < 96) (h159 : S.1 159 p = Int32.ofNat g) (h160 : S.1 160 p = Int32.ofNat m) (h138 : S.1 138 g = Int32.ofNat n) (hn : n ≤ 4) (hm : m < 2 ^ n) : fn_Mo_leftOf (Int32.ofNat p) S = some (Int32.ofNat (mk_lf m n), S) := by
  have hm16 : m < 16 := Nat.lt_of_lt_of_le hm (show 2 ^ n ≤ 2 ^ 4 from Nat.pow_le_pow_right (by decide) hn)
  have i1 : ∀ F l2 l3, l3 < (4 : Int32) → fn_Mo_leftOf_14 (F + 1) (Int32.ofNat p) l2 l3 S = fn_Mo_leftOf_14 F (Int32.ofNat p) (l2 - ((Int32.ofNat m >>> (l3 &&& 31)) &&& 1)) (l3 + 1) S := fun F l2 l3 h => by
    rw [fn_Mo_leftOf_14, if_pos h, if_neg (ms_in hp (by decide)), im_t (show p < 2147483648 by omega), h160]
  unfold fn_Mo_leftOf
  rw [if_neg (ms_in hp (by decide)), im_t (show p < 2147483648 by omega), h159, if_neg (ms_in hg (by decide)), im_t (show g < 2147483648 by omega), h138, show wd_F = 999995 + 1 + 1 + 1 + 1 + 1 from rfl, i1 _ _ 0 (by decide), i1 _ _ (0 + 1) (by decide), i1 _ _ (0 + 1 + 1) (by decide), i1 _ _ (0 + 1 + 1 + 1) (by decide), fn_Mo_leftOf_14, if_neg (show ¬(0 + 1 + 1 + 1 + 1 : Int32) < 4 by decide)]
  rw [← mk_left m hm16 n (by omega) hm]
  rfl
/-- what a version's print writes -/
def pw_o (n : Nat) (l : List Int32) (S S' : wd_S) : Prop := of_f (fun a b => (a = 135 ∧ (b = 76 ∨ b = 88 ∨ b = 92 ∨ b = 93)) ∨ a = 165 ∨ a = 166 ∨ a = 177 ∨ a = 178 ∨ (a = 176 ∧ n ≤ b ∧ b < n + l.length)) S S' ∧ S'.1 135 88 = Int32.ofNat (n + l.length) ∧ ∀ j, (hj : j < l.length) → S'.1 176 (n + j) = l[j]
theorem pw_cat (h1 : pw_o n l1 S S1) (h2 : pw_o (n + l1.length) l2 S1 S2) : pw_o n (l1 ++ l2) S S2 := by
  obtain ⟨a2, a1, a3⟩ := h1
  obtain ⟨b2, b1, b3⟩ := h2
  have el : (l1 ++ l2).length = l1.length + l2.length := List.length_append
  refine ⟨of_trans (of_mono (fun a b q => by rw [el]; omega) a2) (of_mono (fun a b q => by rw [el]; omega) b2), by rw [el, ← Nat.add_assoc]; exact b1, fun j hj => ?_⟩
  rw [el] at hj
  by_cases e : j < l1.length
  · rw [List.getElem_append_left e, b2.1 176 (n + j) (by omega)]
    exact a3 j e
  · rw [List.getElem_append_right (by omega)]
    have := b3 (j - l1.length) (by omega)
    rw [show n + l1.length + (j - l1.length) = n + j by omega] at this
    exact this
theorem pw_mp (h : mp_o n l S S') : pw_o n l S S' := ⟨of_mono (fun a b q => by omega) h.1, h.2.1, h.2.2⟩
theorem pw_pm (h : pm_R S0 pn k n l k' s' S S') : pw_o n l S S' := ⟨of_mono (fun a b q => by unfold pm_V at q; omega) h.2.1, h.1.2.2.1, h.2.2⟩
theorem pw_0 (ho : of_f (fun a b => (a = 135 ∧ (b = 76 ∨ b = 92 ∨ b = 93)) ∨ a = 165 ∨ a = 166) S S') (h : S.1 135 88 = Int32.ofNat n) : pw_o n [] S S' := ⟨of_mono (fun a b q => by omega) ho, by rw [ho.1 135 88 (by omega)]; exact h, fun j hj => absurd hj (Nat.not_lt_zero _)⟩
/-- the parameters -/
theorem pw_92 {kk : Int32 → wd_S → Option (Int32 × wd_S)} {l1 l2 : Int32} (hpn : pn ≤ 4) : ∀ (q i F n : Nat) (S : wd_S), i + q = pn → S.1 135 93 = Int32.ofNat pn → S.1 135 88 = Int32.ofNat n → n + (pr_ps q i).length ≤ 40000 → ∃ S', fn_Mo_print_92 kk (F + 1 + q) l1 l2 (Int32.ofNat i) S = fn_Mo_print_92 kk (F + 1) l1 l2 (Int32.ofNat pn) S' ∧ mp_o n (pr_ps q i) S S' := by
  intro q
  induction q with
  | zero =>
    intro i F n S hi h93 h88 hn
    exact ⟨S, by rw [show i = pn by omega], of_refl, h88, fun j hj => absurd hj (Nat.not_lt_zero _)⟩
  | succ q ih =>
    intro i F n S hi h93 h88 hn
    have e : pr_ps (q + 1) i = ((if i = 0 then [] else pr_x 17) ++ [97 + Int32.ofNat i]) ++ pr_ps q (i + 1) := by
      rw [List.append_assoc]
      rfl
    rw [e, List.length_append] at hn
    have a17 : ∀ S, fn_Mo_eight 0 0 0 0 44 32 S = some (11296, S) := fun S => by unfold fn_Mo_eight; congr 2
    have step : ∃ S1, fn_Mo_print_92 kk (F + 1 + (q + 1)) l1 l2 (Int32.ofNat i) S = fn_Mo_print_92 kk (F + 1 + q) l1 l2 (Int32.ofNat (i + 1)) S1 ∧ mp_o n ((if i = 0 then [] else pr_x 17) ++ [97 + Int32.ofNat i]) S S1 := by
      by_cases h : i = 0
      · rw [if_pos h, List.nil_append] at hn ⊢
        obtain ⟨S1, f1, o1⟩ := mp_lay (x := 97 + Int32.ofNat i) n S h88 (by omega)
        refine ⟨S1, ?_, o1⟩
        show fn_Mo_print_92 kk (F + 1 + q + 1) l1 l2 (Int32.ofNat i) S = _
        rw [fn_Mo_print_92, h93, if_pos ((im_lt (by omega) (by omega)).mpr (by omega)), if_neg (show ¬(0 : Int32) < Int32.ofNat i by rw [h]; decide)]
        unfold fn_Mo_print_119
        rw [f1, wd_d_s, im_s]
      · rw [if_neg h] at hn ⊢
        rw [List.length_append] at hn
        have hn : n + ((pr_x 17).length + 1 + (pr_ps q (i + 1)).length) ≤ 40000 := hn
        obtain ⟨S1, f1, o1⟩ := mp_all (e := 11296) n S h88 (by rw [pm_17]; omega)
        rw [pm_17] at o1
        obtain ⟨S2, f2, o2⟩ := mp_lay (x := 97 + Int32.ofNat i) (n + (pr_x 17).length) S1 o1.2.1 (by show n + (pr_x 17).length + 1 ≤ 40000; omega)
        refine ⟨S2, ?_, mp_cat o1 o2⟩
        show fn_Mo_print_92 kk (F + 1 + q + 1) l1 l2 (Int32.ofNat i) S = _
        rw [fn_Mo_print_92, h93, if_pos ((im_lt (by omega) (by omega)).mpr (by omega)), if_pos (show (0 : Int32) < Int32.ofNat i from (im_lt (m := 0) (n := i) (by omega) (by omega)).mpr (by omega)), a17, wd_c_s, f1, wd_d_s]
        unfold fn_Mo_print_119
        rw [f2, wd_d_s, im_s]
    obtain ⟨S1, f1, o1⟩ := step
    obtain ⟨S2, f2, o2⟩ := ih (i + 1) F (n + ((if i = 0 then [] else pr_x 17) ++ [97 + Int32.ofNat i]).length) S1 (by omega) (by rw [o1.1.1 135 93 (by omega)]; exact h93) o1.2.1 (by omega)
    exact ⟨S2, by rw [f1, f2], by rw [e]; exact mp_cat o1 o2⟩
end Mp5
