/-! The reference: further arguments. -/
section Mg
variable {T : Nat → Int32} {H n f r d m t k u c l w i : Nat} {S S' S1 : wd_S} {e : ps_E} {self : ps_P} {sc : List (Int64 × Nat)}
/-- what the arguments from i on come to -/
def mc_M (T : Nat → Int32) (n f m t k u c l w d i x : Nat) (zl : Nat) (q : Except ps_E ((List tr_T × List (Nat × Nat) × Nat × Nat × Nat) × Nat)) (g : Nat) (S' : wd_S) : Prop := match q with
  | .error e => mt_e T n e S' ∧ g + 3 ≤ 12 * (1501 - i)
  | .ok v => g + 3 ≤ 12 * (v.2 - i) ∧ ∃ l', l ≤ l' ∧ l' + v.1.1.length + 1 + i ≤ l + v.2 ∧ mh_g T n f v.1.2.2.2.2 (t + 1) k (u + (zl + 1 + v.1.1.length)) (c + v.1.2.2.1) l' w v.2 S' ∧ S'.1 152 t = 21 ∧ S'.1 153 t = Int32.ofNat x ∧ ∃ zs' : List Nat, zs'.length = v.1.1.length ∧ (∀ j, (hj : j < zs'.length) → S'.1 151 (u + (zl + 1 + j)) = Int32.ofNat zs'[j]) ∧ ∃ rg : Nat → Nat, rg 0 = c ∧ rg v.1.1.length = c + v.1.2.2.1 ∧ ∀ j, (hj : j < zs'.length) → mr_t T n f S' (rg j) (rg (j + 1)) l l' m v.1.2.2.2.2 d zs'[j] (tr_ls v.1.1 j)
def mc_R (T : Nat → Int32) (n f H m t k u c l w d i x : Nat) (zs : List Nat) (S : wd_S) (q : Except ps_E ((List tr_T × List (Nat × Nat) × Nat × Nat × Nat) × Nat)) (g : Nat) (S' : wd_S) : Prop := of_f (mp_W f m t k (u + zs.length) c l H) S S' ∧ mc_M T n f m t k u c l w d i x zs.length q g S'
theorem mc_args (h8 : n ≤ 8000) (hE : mp_C T n f H r 0 0 d 1 4 (self sc)) (hgd : ∀ sc i m q, self sc i m = .ok q → ps_good (tk_K T n) d i m q) {x : Nat} (ht : t + 1 + 12 * r ≤ 300) (hk : k + 4 * r ≤ 100) (hw : w + r = 24 ∧ H ≤ 3002) : ∀ (q i m c l z : Nat) (zs : List Nat) (S : wd_S), 1500 < i + q → mh_g T n f m (t + 1) (k + 1) (u + zs.length) c l w i S → S.1 152 t = 20 → S.1 153 t = Int32.ofNat x → S.1 155 k = Int32.ofNat z → u + zs.length + 1 ≤ i → c + 1501 ≤ H + i → l + 1501 ≤ H + i → ∃ g S', mp_go g S S' ∧ S'.1 151 (u + zs.length) = Int32.ofNat z ∧ mc_R T n f H m t k u c l w d i x zs S (ps_more (tk_K T n) self sc q i m) g S' := by
  intro q
  induction q with
  | zero =>
    intro i m c l z zs S hq hm
    have := hm.1.2.2.2.2.1
    omega
  | succ q ih =>
    intro i m c l z zs S hq hm h1 h2 h3 hu hc hl
    have hi := hm.1.2.2.2.2.1
    obtain ⟨S3, f3, m3, a3, o3⟩ := mc_arg hm (by omega) (by omega) (by omega) h1 h2 h3
    have tk : S3.1 135 4 = 16 ↔ tk_K T n i = 17 := ma_tok (kk := 17) m3.1 (by decide)
    have O3 : of_f (mp_W f m t k (u + zs.length) c l H) S S3 := of_mono (fun a b z => by
      rcases z with z | z
      · exact Or.inl ⟨z.1, by omega⟩
      · exact Or.inr (Or.inr (Or.inr (Or.inr (Or.inr (Or.inl ⟨z.1, by omega⟩)))))) o3
    unfold ps_more ps_args
    by_cases hk17 : tk_K T n i = 17
    · rw [if_pos hk17]
      rw [if_pos (tk.mpr hk17)] at f3
      obtain ⟨S4, f4, m4, x4, o4⟩ := mh_push (xs := []) (x := 20) (y := Int32.ofNat x) m3 (by show t + 0 < 4000; omega) (fun j hj => absurd hj (Nat.not_lt_zero _))
      obtain ⟨S5, f5, m5, x5, o5⟩ := mh_push (x := 4) (y := 0) m4 (by show t + 1 < 4000; omega) x4
      obtain ⟨S6, f6, o6, r6⟩ := mt_pass h8 m5.1 (by rw [hk17]; decide)
      rw [hk17] at r6
      rw [f4, wd_d_s, f5, wd_d_s, f6, wd_d_s] at f3
      have G1 : mp_go 1 S S6 := mp_g1 f3 rfl
      have O6 : of_f (mp_W f m t k (u + zs.length) c l H) S S6 := mp_of_f2 nx_W_W (mp_of_f2 (fun a b z => mp_le (Nat.le_refl _) (Nat.le_succ _) (Nat.le_refl _) (Nat.le_refl _) (Nat.le_refl _) (Nat.le_refl _) a b (mw_p_W a b z)) (mp_of_f2 mw_p_W O3 o4) o5) o6
      have a6 : S6.1 151 (u + zs.length) = Int32.ofNat z := by
        rw [o6.1 151 _ (by unfold nx_W; omega), o5.1 151 _ (by unfold mw_p; omega), o4.1 151 _ (by unfold mw_p; omega)]
        exact a3
      cases q1 : ps_take (tk_K T n) 17 i with
      | error e =>
        rw [q1] at r6
        exact ⟨1, S6, G1, a6, O6, r6, by omega⟩
      | ok i1 =>
        obtain ⟨-, t2, rfl, t4⟩ := ps_take_ok q1
        rw [q1] at r6
        have m6 := mh_nx o6 m5 r6
        have hs6 : mh_s t ([] ++ [(20, Int32.ofNat x)] ++ [(4, 0)]) S6 := mh_s_o (fun b _ => ⟨o6.1 152 b (by unfold nx_W; omega), o6.1 153 b (by unfold nx_W; omega)⟩) x5
        obtain ⟨v1, v2⟩ := hs6 0 (show 0 < 2 by decide)
        obtain ⟨v3, v4⟩ := hs6 1 (show 1 < 2 by decide)
        obtain ⟨g2, S7, G2, O7, R7⟩ := hE (i + 1) m (t + 1) k (u + zs.length + 1) c l w S6 m6 v3 (by omega) (by omega) (by omega) (by omega) (by omega) hw
        have O7' : of_f (mp_W f m t k (u + zs.length) c l H) S S7 := mp_of_f2 (mp_le (Nat.le_refl _) (Nat.le_succ _) (Nat.le_refl _) (Nat.le_succ _) (Nat.le_refl _) (Nat.le_refl _)) O6 O7
        have a7 : S7.1 151 (u + zs.length) = Int32.ofNat z := by
          rw [O7.1 151 _ (mp_W_n (by omega))]
          exact a6
        show ∃ g S', mp_go g S S' ∧ S'.1 151 (u + zs.length) = Int32.ofNat z ∧ mc_R T n f H m t k u c l w d i x zs S (ps_b (ps_b (self sc (i + 1) m) _) _) g S'
        cases q2 : self sc (i + 1) m with
        | error e =>
          rw [q2] at R7
          exact ⟨1 + g2, S7, mp_got G1 G2, a7, O7', R7.1, by have := R7.2; omega⟩
        | ok v =>
          rw [q2] at R7
          obtain ⟨c2, l2, L1, L2, M7, y, Y7, D7⟩ := R7
          obtain ⟨p1, p2, p3, p4, p5, p6, p7, -⟩ := hgd _ _ _ v q2
          have w1 : S7.1 152 t = 20 := by rw [O7.1 152 t (mp_W_n (by omega))]; exact v1
          have w2 : S7.1 153 t = Int32.ofNat x := by rw [O7.1 153 t (mp_W_n (by omega))]; exact v2
          have el : (zs ++ [z]).length = zs.length + 1 := by rw [List.length_append]; rfl
          have M7' : mh_g T n f v.2.2.2.2 (t + 1) (k + 1) (u + (zs ++ [z]).length) (c + v.2.2.1) l2 w v.2.2.2.1 S7 := by
            rw [el]
            exact M7
          obtain ⟨g3, S8, G3, a8, O8, R8⟩ := ih v.2.2.2.1 v.2.2.2.2 (c + v.2.2.1) l2 y (zs ++ [z]) S7 (by omega) M7' w1 w2 Y7 (by rw [el]; omega) (by omega) (by omega)
          rw [el] at O8 a8
          have O8' : of_f (mp_W f m t k (u + zs.length) c l H) S S8 := mp_of_f2 (mp_le p3 (Nat.le_refl _) (Nat.le_refl _) (by omega) (by omega) L1) O7' O8
          have a9 : S8.1 151 (u + zs.length) = Int32.ofNat z := by
            rw [O8.1 151 _ (mp_W_n (by omega))]
            exact a7
          refine ⟨1 + g2 + g3, S8, mp_got (mp_got G1 G2) G3, a9, O8', ?_⟩
          unfold ps_more at R8
          show mc_M T n f m t k u c l w d i x zs.length (ps_b (ps_b (ps_args (tk_K T n) self sc q v.2.2.2.1 v.2.2.2.2) _) _) _ S8
          cases q3 : ps_args (tk_K T n) self sc q v.2.2.2.1 v.2.2.2.2 with
          | error e =>
            rw [q3] at R8
            exact ⟨R8.1, by have := R8.2; omega⟩
          | ok r' =>
            rw [q3] at R8
            obtain ⟨j1, j2, j3, j4, j5, -⟩ := ps_args_good hgd _ _ _ _ q3
            have R8 : mc_M T n f v.2.2.2.2 t k u (c + v.2.2.1) l2 w d v.2.2.2.1 x (zs ++ [z]).length (ps_b (ps_take (tk_K T n) 16 r'.2.2.2.1) (fun i2 => .ok (r', i2))) g3 S8 := R8
            rw [el] at R8
            show mc_M T n f m t k u c l w d i x zs.length (ps_b (ps_take (tk_K T n) 16 r'.2.2.2.1) _) _ S8
            cases q4 : ps_take (tk_K T n) 16 r'.2.2.2.1 with
            | error e =>
              rw [q4] at R8
              exact ⟨R8.1, by have := R8.2; omega⟩
            | ok i2 =>
              rw [q4] at R8
              obtain ⟨-, t6, rfl, -⟩ := ps_take_ok q4
              obtain ⟨k1, l3, k2, k3, k4, k5, k6, zs', k7, k8, rg, rg0, rg1, k9⟩ := R8
              have k1 : g3 + 3 ≤ 12 * (r'.2.2.2.1 + 1 - v.2.2.2.1) := k1
              have k3 : l3 + r'.1.length + 1 + v.2.2.2.1 ≤ l2 + (r'.2.2.2.1 + 1) := k3
              have k4 : mh_g T n f r'.2.2.2.2 (t + 1) k (u + (zs.length + 1 + 1 + r'.1.length)) (c + v.2.2.1 + r'.2.2.1) l3 w (r'.2.2.2.1 + 1) S8 := k4
              have k9 : ∀ j, (hj : j < zs'.length) → mr_t T n f S8 (rg j) (rg (j + 1)) l2 l3 v.2.2.2.2 r'.2.2.2.2 d zs'[j] (tr_ls r'.1 j) := k9
              have rg1 : rg r'.1.length = c + v.2.2.1 + r'.2.2.1 := rg1
              have k7 : zs'.length = r'.1.length := k7
              refine ⟨?_, l3, by omega, ?_, ?_, k5, k6, y :: zs', ?_, fun j hj => ?_, (fun j => if j = 0 then c else rg (j - 1)), if_pos rfl, ?_, fun j hj => ?_⟩
              · show 1 + g2 + g3 + 3 ≤ 12 * (r'.2.2.2.1 + 1 - i)
                omega
              · show l3 + (r'.1.length + 1) + 1 + i ≤ l + (r'.2.2.2.1 + 1)
                omega
              · show mh_g T n f r'.2.2.2.2 (t + 1) k (u + (zs.length + 1 + (r'.1.length + 1))) (c + (v.2.2.1 + r'.2.2.1)) l3 w (r'.2.2.2.1 + 1) S8
                rw [show u + (zs.length + 1 + (r'.1.length + 1)) = u + (zs.length + 1 + 1 + r'.1.length) by omega, ← Nat.add_assoc c]
                exact k4
              · show zs'.length + 1 = r'.1.length + 1
                rw [k7]
              · cases j with
                | zero => exact a8
                | succ j =>
                  have := k8 j (Nat.lt_of_succ_lt_succ hj)
                  rw [show u + (zs.length + 1 + (j + 1)) = u + (zs.length + 1 + 1 + j) by omega]
                  exact this
              · show (if r'.1.length + 1 = 0 then c else rg (r'.1.length + 1 - 1)) = c + (v.2.2.1 + r'.2.2.1)
                rw [if_neg (Nat.succ_ne_zero _), Nat.add_sub_cancel, rg1]
                omega
              · show mr_t T n f S8 (if j = 0 then c else rg (j - 1)) (if j + 1 = 0 then c else rg (j + 1 - 1)) l l3 m r'.2.2.2.2 d (y :: zs')[j] (tr_ls (v.1 :: r'.1) j)
                rw [if_neg (Nat.succ_ne_zero j), Nat.add_sub_cancel]
                cases j with
                | zero =>
                  rw [if_pos rfl, rg0]
                  exact mr_t_m (Nat.le_refl _) (Nat.le_refl _) (Nat.le_refl _) k2 (Nat.le_refl _) j3 (mr_g_W O8 (Nat.le_refl _) (Nat.le_refl _) (Nat.le_refl _)) _ _ _ D7
                | succ j =>
                  rw [if_neg (Nat.succ_ne_zero j), Nat.add_sub_cancel]
                  exact mr_t_m (Nat.le_refl _) (Nat.le_refl _) L1 (Nat.le_refl _) p3 (Nat.le_refl _) ⟨fun _ _ _ => ⟨rfl, rfl, rfl, rfl, rfl, rfl⟩, fun _ _ _ => rfl, fun _ _ _ => rfl⟩ _ _ _ (k9 j (Nat.lt_of_succ_lt_succ hj))
    · rw [if_neg hk17]
      rw [if_neg (fun z => hk17 (tk.mp z))] at f3
      obtain ⟨S4, f4, m4, x4, o4⟩ := mh_push (xs := []) (x := 21) (y := Int32.ofNat x) m3 (by show t + 0 < 4000; omega) (fun j hj => absurd hj (Nat.not_lt_zero _))
      obtain ⟨S5, f5, m5, x5, o5⟩ := mh_push (x := 1) (y := 15) m4 (by show t + 1 < 4000; omega) x4
      rw [f4, wd_d_s, f5, wd_d_s] at f3
      have G1 : mp_go 1 S S5 := mp_g1 f3 rfl
      have O5 : of_f (mp_W f m t k (u + zs.length) c l H) S S5 := mp_of_f2 (fun a b z => mp_le (Nat.le_refl _) (Nat.le_succ _) (Nat.le_refl _) (Nat.le_refl _) (Nat.le_refl _) (Nat.le_refl _) a b (mw_p_W a b z)) (mp_of_f2 mw_p_W O3 o4) o5
      obtain ⟨v1, v2⟩ := x5 0 (show 0 < 2 by decide)
      obtain ⟨v3, v4⟩ := x5 1 (show 1 < 2 by decide)
      have v3 : S5.1 152 (t + 1) = 1 := v3
      have v4 : S5.1 153 (t + 1) = lx_cv 16 := v4
      obtain ⟨S6, G2, o6, R6⟩ := mp_want (kd := 16) h8 m5 (by show t + 1 < 4000; omega) v3 v4 (by decide) (by decide)
      have O6 : of_f (mp_W f m t k (u + zs.length) c l H) S S6 := mp_of_f2 (fun a b z => by
        rcases z with z | z
        · exact nx_W_W a b z
        · exact mw_35_W a b z) O5 o6
      have a6 : S6.1 151 (u + zs.length) = Int32.ofNat z := by
        rw [o6.1 151 _ (by unfold nx_W mw_35; omega), o5.1 151 _ (by unfold mw_p; omega), o4.1 151 _ (by unfold mw_p; omega)]
        exact a3
      refine ⟨1 + 1, S6, mp_got G1 G2, a6, O6, ?_⟩
      show mc_M T n f m t k u c l w d i x zs.length (ps_b (ps_take (tk_K T n) 16 i) _) _ S6
      cases q1 : ps_take (tk_K T n) 16 i with
      | error e =>
        rw [q1] at R6
        exact ⟨R6, by omega⟩
      | ok i2 =>
        rw [q1] at R6
        obtain ⟨-, t6, rfl, -⟩ := ps_take_ok q1
        refine ⟨by show 1 + 1 + 3 ≤ 12 * (i + 1 - i); omega, l, Nat.le_refl _, by show l + 0 + 1 + i ≤ l + (i + 1); omega, ?_, ?_, ?_, [], rfl, fun j hj => absurd hj (Nat.not_lt_zero _), fun _ => c, rfl, rfl, fun j hj => absurd hj (Nat.not_lt_zero _)⟩
        · exact R6
        · rw [o6.1 152 t (by unfold nx_W mw_35; omega)]; exact v1
        · rw [o6.1 153 t (by unfold nx_W mw_35; omega)]; exact v2
end Mg
