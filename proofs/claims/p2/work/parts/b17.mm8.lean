/-! The reference's maker: a call's arguments. -/
def mm_nzs : List mk_R → Nat
  | [] => 0
  | a :: r => mm_nz a + mm_nzs r
def mm_is : List mk_R → Nat
  | [] => 0
  | a :: r => mm_i a + mm_is r
theorem mm_nzs_a : ∀ l r : List mk_R, mm_nzs (l ++ r) = mm_nzs l + mm_nzs r := by
  intro l r
  induction l with
  | nil => exact (Nat.zero_add _).symm
  | cons a l ih => show mm_nz a + mm_nzs (l ++ r) = mm_nz a + mm_nzs l + mm_nzs r; omega
theorem mm_is_a : ∀ l r : List mk_R, mm_is (l ++ r) = mm_is l + mm_is r := by
  intro l r
  induction l with
  | nil => exact (Nat.zero_add _).symm
  | cons a l ih => show mm_i a + mm_is (l ++ r) = mm_i a + mm_is l + mm_is r; omega
theorem mm_szs : ∀ l : List mk_R, (∀ R, R ∈ l → mk_nn R) → mm_nzs l + mm_is l = mk_sz l := by
  intro l
  induction l with
  | nil => intro _; rfl
  | cons a l ih =>
    intro hl
    have := ih (fun R hR => hl R (List.mem_cons_of_mem _ hR))
    have := mm_nzi (hl a List.mem_cons_self)
    show mm_nz a + mm_nzs l + (mm_i a + mm_is l) = a.2.1 + mk_sz l
    omega
theorem mm_is_le : ∀ l : List mk_R, mm_is l ≤ l.length := by
  intro l
  induction l with
  | nil => exact Nat.le_refl _
  | cons a l ih =>
    have := mm_i1 a
    show mm_i a + mm_is l ≤ l.length + 1
    omega
/-- the arguments that stay -/
def mm_kp (b : Bool) (l : List mk_R) : List mk_R := if b = true then mk_kp l else l
theorem mm_kp_nz (l : List mk_R) : mm_nzs (mk_kp l) = mm_nzs l ∧ mm_is (mk_kp l) = 0 ∧ (mk_kp l).length + mm_is l = l.length := by
  induction l with
  | nil => exact ⟨rfl, rfl, rfl⟩
  | cons a l ih =>
    obtain ⟨h1, h2, h3⟩ := ih
    by_cases e : tr_k a.1 = 1
    · have ek : mk_kp (a :: l) = mk_kp l := List.filter_cons_of_neg (by rw [decide_eq_true_iff]; exact fun q => q e)
      have k1 : mm_nz a = 0 := if_pos e
      have k2 : mm_i a = 1 := if_pos e
      rw [ek]
      exact ⟨by show _ = mm_nz a + mm_nzs l; omega, h2, by show (mk_kp l).length + (mm_i a + mm_is l) = l.length + 1; omega⟩
    · have ek : mk_kp (a :: l) = a :: mk_kp l := List.filter_cons_of_pos (decide_eq_true e)
      have k2 : mm_i a = 0 := if_neg e
      rw [ek]
      exact ⟨by show mm_nz a + mm_nzs (mk_kp l) = mm_nz a + mm_nzs l; omega, by show mm_i a + mm_is (mk_kp l) = 0; omega, by show (mk_kp l).length + 1 + (mm_i a + mm_is l) = l.length + 1; omega⟩
section Mm8
variable {B h : Nat} {pg : pg_T} {S0 S S' S1 S2 S3 : wd_S} {N N' : mk_N} {s s' : mk_S} {k n mn ma ml k' n' mn' ma' ml' mn1 ma1 ml1 y z d r c p i f m a : Nat} {t : tr_T} {x v : Int32} {R : mk_R} {kn : Nat → Int32} {as : List mk_R}
theorem mc_28 (hn : n + 4 ≤ 4000) (ha : as.length ≤ 4) (hr : ∀ j, (hj : j < as.length) → (S.1 167 (n + j) = 0 ↔ ¬tr_k as[j].1 = 1)) : ∀ (r i F : Nat) (S1 : wd_S), i + r = as.length → of_f (fun a b => a = 171) S S1 → (∀ j, j < i → S1.1 171 j = S.1 168 (n + j)) → ∃ S', fn_Mo_onCalled_28 (F + 1 + r) (Int32.ofNat y) (Int32.ofNat as.length) (Int32.ofNat n) (Int32.ofNat (mk_mk (mk_nb as) i)) (Int32.ofNat i) S1 = (if Int32.ofNat (mk_ma as) = Int32.ofNat (2 ^ as.length - 1) then fn_Mo_onCalled_94 wd_F (Int32.ofNat y) (Int32.ofNat as.length) (Int32.ofNat n) (Int32.ofNat (mk_ma as)) 0 S' else fn_Mo_onCalled_174 (Int32.ofNat y) (Int32.ofNat as.length) (Int32.ofNat n) (Int32.ofNat (mk_ma as)) S') ∧ of_f (fun a b => a = 171) S S' ∧ ∀ j, j < as.length → S'.1 171 j = S.1 168 (n + j) := by
  intro r
  induction r with
  | zero =>
    intro i F S1 hi ho hj
    have hi : i = as.length := hi
    subst hi
    refine ⟨S1, ?_, ho, hj⟩
    rw [Nat.add_zero, fn_Mo_onCalled_28, if_neg Int32.lt_irrefl, mk_i_pm _ (by omega)]
    rfl
  | succ r ih =>
    intro i F S1 hi ho hj
    have hil : i < as.length := by omega
    have ea : Int32.ofNat n + Int32.ofNat i = Int32.ofNat (n + i) := (Int32.ofNat_add _ _).symm
    have hnb : mk_nb as i = decide (tr_k as[i].1 = 1) := by unfold mk_nb mk_at; rw [List.getD_eq_getElem?_getD, List.getElem?_eq_getElem hil]; rfl
    have fin : ∀ x, (x = if mk_nb as i = true then 2 ^ i else 0) → ∃ S', fn_Mo_onCalled_56 (fn_Mo_onCalled_28 (F + 1 + r)) (Int32.ofNat y) (Int32.ofNat as.length) (Int32.ofNat n) (Int32.ofNat i) (Int32.ofNat (mk_mk (mk_nb as) i)) (if mk_nb as i = true then ((1 : Int32) <<< (Int32.ofNat i &&& 31)) else 0) S1 = (if Int32.ofNat (mk_ma as) = Int32.ofNat (2 ^ as.length - 1) then fn_Mo_onCalled_94 wd_F (Int32.ofNat y) (Int32.ofNat as.length) (Int32.ofNat n) (Int32.ofNat (mk_ma as)) 0 S' else fn_Mo_onCalled_174 (Int32.ofNat y) (Int32.ofNat as.length) (Int32.ofNat n) (Int32.ofNat (mk_ma as)) S') ∧ of_f (fun a b => a = 171) S S' ∧ ∀ j, j < as.length → S'.1 171 j = S.1 168 (n + j) := fun x hx => by
      have eo : Int32.ofNat (mk_mk (mk_nb as) i) ||| (if mk_nb as i = true then ((1 : Int32) <<< (Int32.ofNat i &&& 31)) else 0) = Int32.ofNat (mk_mk (mk_nb as) (i + 1)) := by
        show _ = Int32.ofNat (mk_mk (mk_nb as) i + (if mk_nb as i = true then 2 ^ i else 0))
        cases mk_nb as i with
        | true => rw [if_pos (rfl : true = true), if_pos (rfl : true = true)]; exact mk_i_or i (by omega) _ (mk_mk_lt _ i)
        | false => rw [if_neg (show ¬false = true by decide), if_neg (show ¬false = true by decide), Nat.add_zero, Int32.or_zero]
      unfold fn_Mo_onCalled_56
      simp only [wd_b]
      rw [ea, if_neg (ms_in (show n + i < 4000 by omega) (by decide)), if_neg (ms_in (show i < 4 by omega) (by decide)), im_t (show n + i < 2147483648 by omega), im_t (show i < 2147483648 by omega), eo, im_s, ho.1 168 (n + i) (by omega)]
      refine ih (i + 1) F _ (by omega) (of_i rfl ho) (fun j h1 => ?_)
      by_cases e : j = i
      · rw [e, fr_eq]
      · rw [fr_ne (by omega)]; exact hj j (by omega)
    show ∃ S', fn_Mo_onCalled_28 (F + 1 + r + 1) (Int32.ofNat y) (Int32.ofNat as.length) (Int32.ofNat n) (Int32.ofNat (mk_mk (mk_nb as) i)) (Int32.ofNat i) S1 = _ ∧ _
    rw [fn_Mo_onCalled_28, if_pos ((im_lt (by omega) (by omega)).mpr hil), ea, if_neg (ms_in (show n + i < 4000 by omega) (by decide)), im_t (show n + i < 2147483648 by omega), ho.1 167 (n + i) (by omega)]
    have fin := fin _ rfl
    by_cases e : tr_k as[i].1 = 1
    · rw [if_neg (fun q => (hr i hil).mp q e)]
      rw [hnb, decide_eq_true e, if_pos (rfl : true = true)] at fin
      exact fin
    · rw [if_pos ((hr i hil).mpr e)]
      rw [hnb, decide_eq_false e, if_neg (show ¬false = true by decide)] at fin
      exact fin
/-- the numbers of a call that is tried -/
theorem mc_94 (hn : n + 4 ≤ 4000) (ha : a ≤ 4) {m : Int32} : ∀ (r i F : Nat) (S1 : wd_S), i + r = a → of_f (fun a b => a = 158) S S1 → (∀ j, j < i → S1.1 158 j = S.1 168 (n + j)) → ∃ S', fn_Mo_onCalled_94 (F + 1 + r) (Int32.ofNat y) (Int32.ofNat a) (Int32.ofNat n) m (Int32.ofNat i) S1 = fn_Mo_onCalled_94 (F + 1) (Int32.ofNat y) (Int32.ofNat a) (Int32.ofNat n) m (Int32.ofNat a) S' ∧ of_f (fun a b => a = 158) S S' ∧ ∀ j, j < a → S'.1 158 j = S.1 168 (n + j) := by
  intro r
  induction r with
  | zero =>
    intro i F S1 hi ho hj
    have hi : i = a := hi
    subst hi
    exact ⟨S1, rfl, ho, hj⟩
  | succ r ih =>
    intro i F S1 hi ho hj
    have ea : Int32.ofNat n + Int32.ofNat i = Int32.ofNat (n + i) := (Int32.ofNat_add _ _).symm
    show ∃ S', fn_Mo_onCalled_94 (F + 1 + r + 1) (Int32.ofNat y) (Int32.ofNat a) (Int32.ofNat n) m (Int32.ofNat i) S1 = _ ∧ _
    rw [fn_Mo_onCalled_94, if_pos ((im_lt (by omega) (by omega)).mpr (by omega))]
    simp only [wd_b]
    rw [ea, if_neg (ms_in (show n + i < 4000 by omega) (by decide)), if_neg (ms_in (show i < 2640 by omega) (by decide)), im_t (show n + i < 2147483648 by omega), im_t (show i < 2147483648 by omega), im_s, ho.1 168 (n + i) (by omega)]
    refine ih (i + 1) F _ (by omega) (of_i rfl ho) (fun j h1 => ?_)
    by_cases e : j = i
    · rw [e, fr_eq]
    · rw [fr_ne (by omega)]; exact hj j (by omega)
/-- nodes for the arguments that stay -/
theorem mc_224 (hX : mm_X B h pg S0) (hn : n + 4 ≤ 4000) (ha : a ≤ 4) (hm : m < 16) (hr1 : 1 ≤ r ∨ a = 0) (b : Bool) {vv : Int32} : ∀ (rs : List mk_R) (i mn : Nat) (zs : List (Nat × mk_R)) (F : Nat) (S : wd_S), i + rs.length = a → zs.length ≤ i → mm_h B h pg S0 N s k n mn ma ml S → (∀ j, (hj : j < rs.length) → mm_r B mn ma r (n + (i + j)) rs[j] S ∧ mk_bt m (i + j) = (b && decide (tr_k rs[j].1 = 1))) → (∀ j, (hj : j < zs.length) → S.1 172 j = Int32.ofNat zs[j].1 ∧ mm_t B mn ma r zs[j].1 zs[j].2.1 S) → mn + mm_is (mm_kp b rs) + 1 ≤ 1000 → ∃ (S' : wd_S) (zs' : List (Nat × mk_R)), fn_Mo_onCalled_224 (F + 1 + rs.length) (Int32.ofNat a) (Int32.ofNat n) (Int32.ofNat m) vv (Int32.ofNat zs.length) (Int32.ofNat i) S = fn_Mo_onCalled_224 (F + 1) (Int32.ofNat a) (Int32.ofNat n) (Int32.ofNat m) vv (Int32.ofNat zs'.length) (Int32.ofNat a) S' ∧ zs'.map (fun p => p.2) = zs.map (fun p => p.2) ++ mm_kp b rs ∧ mm_h B h pg S0 N s k n (mn + mm_is (mm_kp b rs)) ma ml S' ∧ (∀ j, (hj : j < zs'.length) → S'.1 172 j = Int32.ofNat zs'[j].1 ∧ mm_t B (mn + mm_is (mm_kp b rs)) ma r zs'[j].1 zs'[j].2.1 S') ∧ of_f (mm_F B k n mn ma) S S' ∧ ∀ a' x, a' = 158 ∨ (159 ≤ a' ∧ a' ≤ 161) ∨ a' = 171 ∨ (a' = 135 ∧ x = 67) → S'.1 a' x = S.1 a' x := by
  intro rs
  induction rs with
  | nil =>
    intro i mn zs F S hi hz hh _ hzs _
    have hi : i = a := hi
    subst hi
    have e0 : mm_kp b [] = [] := by cases b <;> rfl
    refine ⟨S, zs, rfl, by rw [e0, List.append_nil], ?_, ?_, of_refl, fun _ _ _ => rfl⟩
    · rw [e0]; exact hh
    · rw [e0]; exact hzs
  | cons R rs ih =>
    intro i mn zs F S hi hz hh hrs hzs hb
    have hi : i + (rs.length + 1) = a := hi
    obtain ⟨q1, q2⟩ := hrs 0 (Nat.zero_lt_succ _)
    have q1 : mm_r B mn ma r (n + i) R S := q1
    have q2 : mk_bt m i = (b && decide (tr_k R.1 = 1)) := q2
    have ea : Int32.ofNat n + Int32.ofNat i = Int32.ofNat (n + i) := (Int32.ofNat_add _ _).symm
    show ∃ (S' : wd_S) (zs' : List (Nat × mk_R)), fn_Mo_onCalled_224 (F + 1 + rs.length + 1) (Int32.ofNat a) (Int32.ofNat n) (Int32.ofNat m) vv (Int32.ofNat zs.length) (Int32.ofNat i) S = _ ∧ _
    rw [fn_Mo_onCalled_224, if_pos ((im_lt (by omega) (by omega)).mpr (by omega)), mk_i_bt m hm i (by omega)]
    unfold fn_Mo_onCalled_256
    simp only [wd_b]
    rw [im_s i]
    by_cases hd : (b && decide (tr_k R.1 = 1)) = true
    · have hbt : b = true := (Bool.and_eq_true _ _ ▸ hd).1
      have hk1 : tr_k R.1 = 1 := of_decide_eq_true (Bool.and_eq_true _ _ ▸ hd).2
      subst hbt
      have ek : mm_kp true (R :: rs) = mm_kp true rs := show mk_kp (R :: rs) = mk_kp rs from List.filter_cons_of_neg (by rw [decide_eq_true_iff]; exact fun q => q hk1)
      rw [q2, hd, if_pos (rfl : true = true), if_neg (show ¬(1 : Int32) = 0 by decide)]
      rw [ek] at hb ⊢
      exact ih (i + 1) mn zs F S (by omega) (by omega) hh (fun j hj => by
        have := hrs (j + 1) (Nat.succ_lt_succ hj)
        rw [show i + (j + 1) = i + 1 + j by omega] at this
        exact this) hzs hb
    · have hd2 : (b && decide (tr_k R.1 = 1)) = false := Bool.eq_false_iff.mpr hd
      have ek : mm_kp b (R :: rs) = R :: mm_kp b rs := by
        cases b with
        | false => rfl
        | true => exact show mk_kp (R :: rs) = R :: mk_kp rs from List.filter_cons_of_pos (decide_eq_true (fun q => hd (by rw [decide_eq_true q]; rfl)))
      rw [ek] at hb ⊢
      have hb : mn + (mm_i R + mm_is (mm_kp b rs)) + 1 ≤ 1000 := hb
      rw [q2, hd2, if_neg (show ¬false = true by decide), if_pos rfl, ea]
      obtain ⟨x1, S3, f3, h3, t3, o3⟩ := mm_node hX hh (show n + i < 4000 by omega) q1 (by omega) (by omega)
      have h3 : mm_h B h pg S0 N s k n (mn + mm_i R) ma ml S3 := h3
      have t3 : mm_t B (mn + mm_i R) ma r x1 R.1 S3 := t3
      rw [f3, wd_c_s, if_neg (ms_in (show zs.length < 4 by omega) (by decide)), im_t (show zs.length < 2147483648 by omega), im_s zs.length]
      have o4 : of_f (fun a b => a = 172) S3 (wd_i S3 172 zs.length (Int32.ofNat x1)) := of_i rfl of_refl
      have h4 : mm_h B h pg S0 N s k n (mn + mm_i R) ma ml (wd_i S3 172 zs.length (Int32.ofNat x1)) := by
        obtain ⟨a1, a2, a3, a4, a5, a6, a7, a8, a9, a10, a11, a12, a13⟩ := id h3
        exact mm_hw (k0 := 0) (n0 := 0) (mn0 := 0) (ma0 := 0) h3 (of_mono (fun a b z => by unfold mm_w; omega) o4) (by rw [fr_ne (by omega)]; exact a2) (by rw [fr_ne (by omega)]; exact a3) (by rw [fr_ne (by omega)]; exact a6) (by rw [fr_ne (by omega)]; exact a9) (by rw [fr_ne (by omega)]; exact a10) a11 a12
      have v4 : (wd_i S3 172 zs.length (Int32.ofNat x1)).1 172 zs.length = Int32.ofNat x1 := fr_eq
      have u4 : ∀ j, j ≠ zs.length → (wd_i S3 172 zs.length (Int32.ofNat x1)).1 172 j = S3.1 172 j := fun j hj => fr_ne (by omega)
      generalize wd_i S3 172 zs.length (Int32.ofNat x1) = S4 at *
      have w4 : ∀ k0 n0 mn0 ma0, of_f (mm_F B k0 n0 mn0 ma0) S3 S4 := fun k0 n0 mn0 ma0 => of_mono (fun a b z => mm_w_F a b (by unfold mm_w; omega)) o4
      have w3 : ∀ k0 n0, of_f (mm_F B k0 n0 mn ma) S S3 := fun k0 n0 => mm_nw hX (by omega) o3 (Nat.le_refl _)
      have el : zs.length + 1 = (zs ++ [(x1, R)]).length := by rw [List.length_append]; rfl
      rw [el]
      obtain ⟨S5, zs5, f5, m5, h5, z5, o5, p5⟩ := ih (i + 1) (mn + mm_i R) (zs ++ [(x1, R)]) F S4 (by omega) (by rw [← el]; omega) h4 (fun j hj => by
        have := hrs (j + 1) (Nat.succ_lt_succ hj)
        rw [show i + (j + 1) = i + 1 + j by omega] at this
        exact ⟨mm_r_o (w4 0 4000 (mn + mm_i R) ma) (by omega) (Nat.le_refl _) (Nat.le_refl _) (mm_r_o (w3 0 4000) (by omega) (Nat.le_add_right _ _) (Nat.le_refl _) this.1), this.2⟩) (fun j hj => by
        rw [← el] at hj
        by_cases e : j = zs.length
        · subst e
          rw [List.getElem_append_right (Nat.le_refl _)]
          simp only [Nat.sub_self, List.getElem_cons_zero]
          exact ⟨v4, mm_t_o (w4 0 0 (mn + mm_i R) ma) (Nat.le_refl _) (Nat.le_refl _) t3⟩
        · rw [List.getElem_append_left (show j < zs.length by omega)]
          obtain ⟨e1, e2⟩ := hzs j (by omega)
          exact ⟨by rw [u4 j e, o3.1 172 j (by omega)]; exact e1, mm_t_o (w4 0 0 (mn + mm_i R) ma) (Nat.le_refl _) (Nat.le_refl _) (mm_t_o (w3 0 0) (Nat.le_add_right _ _) (Nat.le_refl _) e2)⟩) (by omega)
      have es : mn + mm_i R + mm_is (mm_kp b rs) = mn + mm_is (R :: mm_kp b rs) := by
        show _ = mn + (mm_i R + mm_is (mm_kp b rs))
        omega
      rw [es] at h5 z5
      refine ⟨S5, zs5, f5, ?_, h5, z5, of_trans (w3 k n) (of_trans (w4 k n mn ma) (of_mono (mm_F_le (Nat.le_refl _) (Nat.le_refl _) (Nat.le_add_right _ _) (Nat.le_refl _)) o5)), fun a' x' q => ?_⟩
      · rw [m5, List.map_append, List.append_assoc]
        rfl
      · rw [p5 a' x' q, o4.1 a' x' (by omega), o3.1 a' x' (by omega)]
/-- arguments are laid -/
theorem mc_302 (hB : B ≤ 1) {κ : Nat} (hκ : κ ≤ 4) (hma : ma + 4 ≤ 2000) {w : Int32} : ∀ (q j F : Nat) (S1 : wd_S), j + q = κ → of_f (fun a b => (a = 135 ∧ b = 67) ∨ (a = 149 ∧ 3004 + 6002 * B + ma ≤ b ∧ b < 3004 + 6002 * B + ma + κ)) S S1 → S1.1 135 67 = Int32.ofNat (3004 + 6002 * B + (ma + j)) → (∀ i, i < j → S1.1 149 (3004 + 6002 * B + (ma + i)) = S.1 172 i) → ∃ S', fn_Mo_onCalled_302 (F + 1 + q) (Int32.ofNat κ) w (Int32.ofNat j) S1 = fn_Mo_gives 0 w S' ∧ of_f (fun a b => (a = 135 ∧ b = 67) ∨ (a = 149 ∧ 3004 + 6002 * B + ma ≤ b ∧ b < 3004 + 6002 * B + ma + κ)) S S' ∧ S'.1 135 67 = Int32.ofNat (3004 + 6002 * B + (ma + κ)) ∧ ∀ i, i < κ → S'.1 149 (3004 + 6002 * B + (ma + i)) = S.1 172 i := by
  intro q
  induction q with
  | zero =>
    intro j F S1 hj ho h67 hi
    have hj : j = κ := hj
    subst hj
    refine ⟨S1, ?_, ho, h67, hi⟩
    rw [Nat.add_zero, fn_Mo_onCalled_302, if_neg Int32.lt_irrefl]
    exact wd_d_id _
  | succ q ih =>
    intro j F S1 hj ho h67 hi
    show ∃ S', fn_Mo_onCalled_302 (F + 1 + q + 1) (Int32.ofNat κ) w (Int32.ofNat j) S1 = _ ∧ _
    rw [fn_Mo_onCalled_302, if_pos ((im_lt (by omega) (by omega)).mpr (by omega))]
    simp only [wd_b]
    rw [h67, if_neg (ms_in (show j < 4 by omega) (by decide)), if_neg (ms_in (show 3004 + 6002 * B + (ma + j) < 15010 by omega) (by decide)), im_t (show j < 2147483648 by omega), im_t (show 3004 + 6002 * B + (ma + j) < 2147483648 by omega), fr_ne (show ¬(135 = 149 ∧ _) by omega), h67, im_s, im_s, ho.1 172 j (by omega)]
    refine ih (j + 1) F _ (by omega) (of_i (by omega) (of_i (by omega) ho)) (by rw [fr_eq]; rfl) (fun i h1 => ?_)
    by_cases e : i = j
    · rw [e, fr_ne (by omega), fr_eq]
    · rw [fr_ne (by omega), fr_ne (by omega)]; exact hi i (by omega)
end Mm8
