/-! part b22 -/
section
/-! The reference's make(): version by version. -/
def me_F (B a b : Nat) : Prop := mm_F B 0 0 0 0 a b ∨ (162 ≤ a ∧ a ≤ 164 ∧ 80 * B ≤ b ∧ b < 80 * B + 80)
def mb_h (B h : Nat) (pg : pg_T) (s : mk_S) (mn ma : Nat) (S : wd_S) : Prop := S.1 135 66 = Int32.ofNat mn ∧ S.1 135 67 = Int32.ofNat (3004 + 6002 * B + ma) ∧ S.1 135 68 = Int32.ofNat s.2.2.1 ∧ S.1 135 69 = Int32.ofNat s.2.2.2 ∧ S.1 135 71 = Int32.ofNat s.2.1 ∧ S.1 135 73 = 0 ∧ mn ≤ s.2.1 ∧ ma ≤ mn ∧ s.2.1 ≤ 1000 ∧ mm_v B h pg s.1 S
def md_D (B mn ma : Nat) (ds : pg_T) (S : wd_S) : Prop := ∀ j, (hj : j < ds.length) → ∃ y, S.1 162 (80 * B + j) = Int32.ofNat y ∧ mm_t B mn ma 96 y ds[j].2.1 S ∧ S.1 163 (80 * B + j) = Int32.ofNat ds[j].2.2.1 ∧ S.1 164 (80 * B + j) = Int32.ofNat ds[j].2.2.2
section Mmd
variable {B h : Nat} {pg ds : pg_T} {S0 S S' S1 S2 S3 S9 : wd_S} {N N' : mk_N} {s s' : mk_S} {k n mn ma ml mn' ma' mn1 ma1 ml1 y z d r c p i f m a g K : Nat} {t : tr_T} {x v : Int32} {R : mk_R} {kn : Nat → Int32}
theorem me_X (hX : mm_X B h pg S0) (ho : of_f (me_F B) S0 S) : mm_X B h pg S := by
  obtain ⟨h1, h2, h3, h4, h5, h6⟩ := hX
  have w : ∀ a b, (a = 135 ∧ b = 64) ∨ (138 ≤ a ∧ a ≤ 141) ∨ (143 ≤ a ∧ a ≤ 149 ∧ b < 3004) → ¬me_F B a b := fun a b q => by unfold me_F mm_F; omega
  refine ⟨h1, h2, by rw [ho.1 135 64 (w _ _ (by omega))]; exact h3, fun j hj => ?_, h5, h6⟩
  exact mo_F_o (fun a q1 q2 => ho.1 a _ (w _ _ (by omega))) (mj_g_o ho (fun a x q1 q2 q3 q4 => w _ _ (by omega)) (fun x q1 q2 => w _ _ (by omega))) (Nat.le_refl _) (Nat.le_refl _) (h4 j hj)
/-- the PARAMS' meanings -/
theorem mv_12 (hpn : a ≤ 4) (hm : m < 16) (hp : p < 160) (hg : g < 96) (h138 : S.1 138 g = Int32.ofNat a) (h160 : S.1 160 p = Int32.ofNat m) (h161 : ∀ i, i < 4 → S.1 161 (4 * p + i) = kn i) : ∀ (r i F : Nat) (S1 : wd_S), i + r = a → of_f (fun a b => a = 169 ∨ a = 170) S S1 → (∀ j, j < i → S1.1 169 j = (if mk_bt m j = true then 1 else 0) ∧ S1.1 170 j = if mk_bt m j = true then kn j else Int32.ofNat (mk_lf m j)) → ∃ S', fn_Mo_makeVersion_12 (F + 1 + r) (Int32.ofNat p) (Int32.ofNat g) (Int32.ofNat (mk_lf m i)) (Int32.ofNat i) S1 = fn_Mo_makeVersion_12 (F + 1) (Int32.ofNat p) (Int32.ofNat g) (Int32.ofNat (mk_lf m a)) (Int32.ofNat a) S' ∧ of_f (fun a b => a = 169 ∨ a = 170) S S' ∧ ∀ j, j < a → S'.1 169 j = (if mk_bt m j = true then 1 else 0) ∧ S'.1 170 j = if mk_bt m j = true then kn j else Int32.ofNat (mk_lf m j) := by
  intro r
  induction r with
  | zero =>
    intro i F S1 hi ho hj
    have hi : i = a := hi
    subst hi
    exact ⟨S1, rfl, ho, hj⟩
  | succ r ih =>
    intro i F S1 hi ho hj
    have hi4 : i < 4 := by omega
    have ea : (4 : Int32) * Int32.ofNat p + Int32.ofNat i = Int32.ofNat (4 * p + i) := by rw [show (4 : Int32) = Int32.ofNat 4 from rfl, im_ma]
    show ∃ S', fn_Mo_makeVersion_12 (F + 1 + r + 1) (Int32.ofNat p) (Int32.ofNat g) (Int32.ofNat (mk_lf m i)) (Int32.ofNat i) S1 = _ ∧ _
    rw [fn_Mo_makeVersion_12, if_neg (ms_in hg (by decide)), im_t (show g < 2147483648 by omega), ho.1 138 g (by omega), h138, if_pos ((im_lt (by omega) (by omega)).mpr (by omega)), if_neg (ms_in hp (by decide)), im_t (show p < 2147483648 by omega), ho.1 160 p (by omega), h160, mk_i_bt m hm i hi4]
    unfold fn_Mo_makeVersion_43 fn_Mo_makeVersion_80 fn_Mo_makeVersion_92
    simp only [wd_b]
    cases hb : mk_bt m i with
    | true =>
      rw [if_pos (rfl : true = true), if_pos rfl, if_neg (fun q => by rcases q with q | q; exact ms_in (show i < 16 by omega) (by decide) q; exact q fo_b1), im_t (show i < 2147483648 by omega), if_neg (show ¬(1 : Int32) = 0 by decide), ea, if_neg (ms_in (show 4 * p + i < 640 by omega) (by decide)), if_neg (ms_iy (show i < 16 by omega) (by decide)), im_t (show 4 * p + i < 2147483648 by omega), if_neg (show ¬(1 : Int32) = 0 by decide), fr_ne (show ¬(161 = 169 ∧ _) by omega), ho.1 161 _ (by omega), h161 i hi4, im_s i]
      have el : Int32.ofNat (mk_lf m i) + 0 = Int32.ofNat (mk_lf m (i + 1)) := by
        show _ = Int32.ofNat (mk_lf m i + (if mk_bt m i = true then 0 else 1))
        rw [hb, if_pos rfl]
        exact (Int32.ofNat_add (mk_lf m i) 0).symm
      rw [el]
      refine ih (i + 1) F _ (by omega) (of_i (Or.inr rfl) (of_i (Or.inl rfl) ho)) (fun j h1 => ?_)
      by_cases e : j = i
      · subst e
        rw [hb, if_pos rfl, if_pos rfl]
        exact ⟨by rw [fr_ne (by omega), fr_eq], fr_eq⟩
      · rw [fr_ne (by omega), fr_ne (by omega), fr_ne (by omega), fr_ne (by omega)]; exact hj j (by omega)
    | false =>
      rw [if_neg (show ¬false = true by decide), if_neg (show ¬(0 : Int32) = 1 by decide), if_neg (fun q => by rcases q with q | q; exact ms_in (show i < 16 by omega) (by decide) q; exact q fo_b0), im_t (show i < 2147483648 by omega), if_pos trivial, if_neg (ms_iy (show i < 16 by omega) (by decide)), if_pos trivial, im_s i]
      have el : Int32.ofNat (mk_lf m i) + 1 = Int32.ofNat (mk_lf m (i + 1)) := by
        show _ = Int32.ofNat (mk_lf m i + (if mk_bt m i = true then 0 else 1))
        rw [hb, if_neg (show ¬false = true by decide), im_s]
      rw [el]
      refine ih (i + 1) F _ (by omega) (of_i (Or.inr rfl) (of_i (Or.inl rfl) ho)) (fun j h1 => ?_)
      by_cases e : j = i
      · subst e
        rw [hb, if_neg (show ¬false = true by decide), if_neg (show ¬false = true by decide)]
        exact ⟨by rw [fr_ne (by omega), fr_eq], fr_eq⟩
      · rw [fr_ne (by omega), fr_ne (by omega), fr_ne (by omega), fr_ne (by omega)]; exact hj j (by omega)
theorem me_169 {k0 n0 mn0 ma0 : Nat} : ∀ a b, a = 169 ∨ a = 170 → mm_F B k0 n0 mn0 ma0 a b := fun a b q => Or.inr (Or.inr (Or.inr (Or.inr (Or.inr (Or.inr (Or.inr (Or.inr (Or.inr (Or.inr (Or.inr ⟨by omega, by omega⟩))))))))))
theorem mm_end73 {F : Nat} {l1 l4 : Int32} (h73 : ¬S.1 135 73 = 0) : fn_Mo_makeVersion_132 (F + 1) l1 l4 S = fn_Mo_makeVersion_181 l1 l4 S := by rw [fn_Mo_makeVersion_132, if_neg h73, ite_self]
theorem mm_node2 (hX : mm_X B h pg S0) (hh : mm_h B h pg S0 N s k n mn ma ml S) (hp : p < 4000) (hr : mm_r B mn ma d p R S) (hd : 1 ≤ d) (hmn : tr_k R.1 = 1 → mn + 1 ≤ 1000) : ∃ z S', fn_Mo_nodeOf (Int32.ofNat p) S = some (Int32.ofNat z, S') ∧ mm_h B h pg S0 N s k n (mn + mm_i R) ma ml S' ∧ mm_t B (mn + mm_i R) ma d z R.1 S' ∧ of_f (fun a b => (a = 135 ∧ b = 66) ∨ (143 ≤ a ∧ a ≤ 146 ∧ b = 3004 + 6002 * B + mn)) S S' := by
  by_cases e : tr_k R.1 = 1
  · exact mm_node hX hh hp hr hd (hmn e)
  · have e0 : mm_i R = 0 := if_neg e
    rw [e0]
    rcases hr with ⟨h1, -⟩ | ⟨-, h2, z, h3, h4⟩
    · exact absurd h1 e
    · refine ⟨z, S, ?_, hh, h4, of_refl⟩
      unfold fn_Mo_nodeOf
      rw [im_t (show p < 2147483648 by omega), if_neg (ms_iy hp (by decide)), h2, if_pos rfl, if_neg (ms_iy hp (by decide)), h3]
/-- a version is made -/
theorem mo_mv (hX : mm_X B h pg S) (hh : mb_h B h pg s mn ma S) (hk : k < s.1.length) : match mk pg 96 (mk_e (pg_n pg s.1[k].1) s.1[k]) s ((pg_P pg).getD s.1[k].1 tr_z) with
    | .error none => True
    | .error (some _) => ∃ S', fn_Mo_makeVersion (Int32.ofNat (80 * B + k)) S = some S' ∧ ¬S'.1 135 73 = 0 ∧ of_f (me_F B) S S'
    | .ok q => ∃ S' mn' ma', fn_Mo_makeVersion (Int32.ofNat (80 * B + k)) S = some S' ∧ mb_h B h pg q.2.2 mn' ma' S' ∧ mn ≤ mn' ∧ ma ≤ ma' ∧ (∃ y, S'.1 162 (80 * B + k) = Int32.ofNat y ∧ mm_t B mn' ma' 96 y q.1.1 S') ∧ S'.1 163 (80 * B + k) = Int32.ofNat q.1.2.1 ∧ S'.1 164 (80 * B + k) = Int32.ofNat q.1.2.2 ∧ of_f (fun a b => mm_F B 0 0 mn ma a b ∨ (162 ≤ a ∧ a ≤ 164 ∧ b = 80 * B + k)) S S' := by
  have hB := hX.1
  have hh1 := hX.2.1
  have hpl := hX.2.2.2.2.1
  have hpn := hX.2.2.2.2.2 s.1[k].1
  obtain ⟨b66, b67, b68, b69, b71, b73, bmn, bma, bg, bv⟩ := hh
  have hlv := mk_ok_len bv.2.1
  obtain ⟨v1, v2, v3⟩ := bv.2.2 k hk
  obtain ⟨w1, w2⟩ := bv.2.1.1 s.1[k] (List.getElem_mem hk)
  have hp16 : 2 ^ pg_n pg s.1[k].1 ≤ 2 ^ 4 := Nat.pow_le_pow_right (by decide) hpn
  obtain ⟨x138, -, -, yb, x140, xt⟩ := hX.2.2.2.1 s.1[k].1 w1
  have hpq : pg[s.1[k].1].1 = pg_n pg s.1[k].1 := by
    unfold pg_n
    rw [List.getD_eq_getElem?_getD, List.getElem?_eq_getElem w1]
    rfl
  rw [hpq] at x138
  have hP : (pg_P pg).getD s.1[k].1 tr_z = pg[s.1[k].1].2.1 := by
    unfold pg_P
    rw [List.getD_eq_getElem?_getD, List.getElem?_map, List.getElem?_eq_getElem w1]
    rfl
  rw [hP]
  obtain ⟨S1, f1, o1, c1⟩ := mv_12 (S := S) (kn := s.1[k].2.2) hpn (show s.1[k].2.1 < 16 by omega) (show 80 * B + k < 160 by omega) (show 48 * h + s.1[k].1 < 96 by omega) x138 v2 v3 (pg_n pg s.1[k].1) 0 (999999 - pg_n pg s.1[k].1) S (Nat.zero_add _) of_refl (fun j hj => absurd hj (Nat.not_lt_zero _))
  rw [show 999999 - pg_n pg s.1[k].1 + 1 + pg_n pg s.1[k].1 = wd_F by rw [show wd_F = 1000000 from rfl]; omega] at f1
  have f1 : fn_Mo_makeVersion_12 wd_F (Int32.ofNat (80 * B + k)) (Int32.ofNat (48 * h + s.1[k].1)) 0 0 S = _ := f1
  generalize hS4 : wd_i (wd_i (wd_i S1 135 70 0) 135 76 0) 135 79 0 = S4
  have o4 : of_f (fun a b => a = 135 ∧ (b = 70 ∨ b = 76 ∨ b = 79)) S1 S4 := by
    rw [← hS4]
    exact of_i (by omega) (of_i (by omega) (of_i (by omega) of_refl))
  have c70 : S4.1 135 70 = 0 := by rw [← hS4, fr_ne (by omega), fr_ne (by omega), fr_eq]
  have c76 : S4.1 135 76 = 0 := by rw [← hS4, fr_ne (by omega), fr_eq]
  have c79 : S4.1 135 79 = 0 := by rw [← hS4, fr_eq]
  have oA : ∀ k0 n0 mn0 ma0, of_f (mm_F B k0 n0 mn0 ma0) S S4 := fun k0 n0 mn0 ma0 => of_trans (of_mono me_169 o1) (of_mono (fun a b q => Or.inl ⟨q.1, by omega⟩) o4)
  have e5 : ∀ b, b ≠ 70 → b ≠ 76 → b ≠ 79 → S4.1 135 b = S.1 135 b := fun b q1 q2 q3 => by rw [o4.1 135 b (by omega), o1.1 135 b (by omega)]
  have h4 : mm_h B h pg S (mk_e (pg_n pg s.1[k].1) s.1[k]) s 0 0 mn ma 0 S4 := by
    refine ⟨oA 0 0 0 0, by rw [e5 66 (by decide) (by decide) (by decide)]; exact b66, by rw [e5 67 (by decide) (by decide) (by decide)]; exact b67, by rw [e5 68 (by decide) (by decide) (by decide)]; exact b68, by rw [e5 69 (by decide) (by decide) (by decide)]; exact b69, c70, by rw [e5 71 (by decide) (by decide) (by decide)]; exact b71, by rw [e5 73 (by decide) (by decide) (by decide)]; exact b73, c76, c79, by omega, by omega, bg, fun j q hj => ?_, by rw [e5 65 (by decide) (by decide) (by decide)]; exact bv.1, bv.2.1, fun j hj => ?_⟩
    · unfold mk_e at hj
      split at hj
      · next hjp =>
        obtain ⟨u1, u2⟩ := c1 j hjp
        have q169 : S4.1 169 j = S1.1 169 j := o4.1 169 j (by omega)
        have q170 : S4.1 170 j = S1.1 170 j := o4.1 170 j (by omega)
        cases hj
        refine ⟨by omega, ?_, ?_, fun hq => ⟨mk_lf s.1[k].2.1 j, ?_, ?_⟩⟩
        · rw [q169, u1]
          cases mk_bt s.1[k].2.1 j <;> rfl
        · rw [q170, u2]
          cases mk_bt s.1[k].2.1 j <;> rfl
        · have := mk_lf_le s.1[k].2.1 j; omega
        · revert hq
          cases mk_bt s.1[k].2.1 j with
          | true => intro hq; cases hq
          | false => intro _; rfl
      · cases hj
    · obtain ⟨l1, l2, l3⟩ := bv.2.2 j hj
      exact ⟨by rw [o4.1 159 _ (by omega), o1.1 159 _ (by omega)]; exact l1, by rw [o4.1 160 _ (by omega), o1.1 160 _ (by omega)]; exact l2, fun i hi => by rw [o4.1 161 _ (by omega), o1.1 161 _ (by omega)]; exact l3 i hi⟩
  have r140 : S4.1 140 (48 * h + s.1[k].1) = Int32.ofNat yb := by rw [o4.1 140 _ (by omega), o1.1 140 _ (by omega)]; exact x140
  have h5 : mm_h B h pg S (mk_e (pg_n pg s.1[k].1) s.1[k]) s 1 0 mn ma 0 (ml_p 0 1 (Int32.ofNat yb) S4) := mm_h_p h4
  have o5 : ∀ k0 n0 mn0 ma0, k0 = 0 → of_f (mm_F B k0 n0 mn0 ma0) S (ml_p 0 1 (Int32.ofNat yb) S4) := fun k0 n0 mn0 ma0 q => of_trans (oA k0 n0 mn0 ma0) (mm_pw (by omega))
  have em : fn_Mo_makeVersion (Int32.ofNat (80 * B + k)) S = fn_Mo_makeVersion_132 wd_F (Int32.ofNat (80 * B + k)) (Int32.ofNat mn) (ml_p 0 1 (Int32.ofNat yb) S4) := by
    unfold fn_Mo_makeVersion
    rw [if_neg (ms_in (show 80 * B + k < 160 by omega) (by decide)), im_t (show 80 * B + k < 2147483648 by omega), v1, f1, fn_Mo_makeVersion_12, if_neg (ms_in (show 48 * h + s.1[k].1 < 96 by omega) (by decide)), im_t (show 48 * h + s.1[k].1 < 2147483648 by omega), o1.1 138 _ (by omega), x138, if_neg Int32.lt_irrefl]
    simp only [wd_b]
    rw [hS4, if_neg (ms_iy (show 48 * h + s.1[k].1 < 96 by omega) (by decide)), r140, mm_later (k := 0) c76 (by decide), wd_d_s, o1.1 135 66 (by omega), b66]
  rw [em]
  have hO := mm_all hX 96 (mk_e (pg_n pg s.1[k].1) s.1[k]) s 0 0 mn ma 0 yb pg[s.1[k].1].2.1 96 (ml_p 0 1 (Int32.ofNat yb) S4) h5 (by rw [ml_165, if_pos rfl]) (by rw [ml_166, if_pos rfl]) bmn bma (by omega) (by omega) xt
  have gl : ∀ S5 l, fn_Mo_makeVersion_199 (Int32.ofNat (80 * B + k)) l S5 = some (wd_i (wd_i S5 163 (80 * B + k) (S5.1 135 66 - l)) 164 (80 * B + k) (S5.1 135 70)) := fun S5 l => by
    unfold fn_Mo_makeVersion_199
    simp only [wd_b]
    rw [if_neg (ms_in (show 80 * B + k < 160 by omega) (by decide)), if_neg (ms_in (show 80 * B + k < 160 by omega) (by decide)), im_t (show 80 * B + k < 2147483648 by omega), fr_ne (show ¬(135 = 163 ∧ _) by omega)]
  cases hm : mk pg 96 (mk_e (pg_n pg s.1[k].1) s.1[k]) s pg[s.1[k].1].2.1 with
  | error e =>
    rw [hm] at hO
    cases e with
    | none => trivial
    | some e =>
      obtain ⟨gg, S6, g1, g2, g3, g4⟩ := hO
      have g1 := g1 (wd_F - gg - 1 + 1) (Int32.ofNat (80 * B + k)) (Int32.ofNat mn)
      rw [show wd_F - gg - 1 + 1 + gg = wd_F by rw [show wd_F = 1000000 from rfl]; omega, mm_end73 g3] at g1
      unfold fn_Mo_makeVersion_181 at g1
      rw [if_neg g3, gl] at g1
      refine ⟨_, g1, by rw [fr_ne (by omega), fr_ne (by omega)]; exact g3, of_trans (of_mono (fun a b q => Or.inl q) (o5 0 0 0 0 rfl)) (of_trans (of_mono (fun a b q => Or.inl (mm_F_le (Nat.zero_le _) (Nat.zero_le _) (Nat.zero_le _) (Nat.zero_le _) a b q)) g4) (of_i (Or.inr (by omega)) (of_i (Or.inr (by omega)) of_refl)))⟩
  | ok q =>
    rw [hm] at hO
    obtain ⟨gg, S6, g1, g2, ma6, h6, i6, j6, r6, o6⟩ := hO
    obtain ⟨p1, p2, p3, p4⟩ := mk_gs _ _ _ _ _ hm
    have p2 := p2 bg
    have nq := mm_nzi p4
    have g1 := g1 (wd_F - gg - 1 + 1) (Int32.ofNat (80 * B + k)) (Int32.ofNat mn)
    rw [show wd_F - gg - 1 + 1 + gg = wd_F by rw [show wd_F = 1000000 from rfl]; omega, fn_Mo_makeVersion_132, h6.2.2.2.2.2.2.2.2.1, if_neg (show ¬(0 : Int32) < Int32.ofNat 0 by decide)] at g1
    unfold fn_Mo_makeVersion_181 at g1
    obtain ⟨x7, S7, f7, h7, t7, o7⟩ := mm_node2 hX h6 (show 0 < 4000 by decide) r6 (by decide) (fun e1 => by have e0 : mm_nz q.1 = 0 := if_pos e1; omega)
    have h7 : mm_h B h pg S q.2.1 q.2.2 0 (0 + 1) (mn + mm_nz q.1 + mm_i q.1) ma6 (0 + q.1.2.2) S7 := h7
    have t7 : mm_t B (mn + mm_nz q.1 + mm_i q.1) ma6 96 x7 q.1.1 S7 := t7
    have f7 : fn_Mo_nodeOf 0 S6 = some (Int32.ofNat x7, S7) := f7
    rw [if_pos h6.2.2.2.2.2.2.2.1, f7, wd_c_s, if_neg (ms_in (show 80 * B + k < 160 by omega) (by decide)), im_t (show 80 * B + k < 2147483648 by omega)] at g1
    simp only [wd_b] at g1
    rw [gl, fr_ne (show ¬(135 = 162 ∧ _) by omega), fr_ne (show ¬(135 = 162 ∧ _) by omega), h7.2.1, h7.2.2.2.2.2.1, show mn + mm_nz q.1 + mm_i q.1 = q.1.2.1 + mn by omega, im_sb, Nat.zero_add] at g1
    generalize hS8 : wd_i (wd_i (wd_i S7 162 (80 * B + k) (Int32.ofNat x7)) 163 (80 * B + k) (Int32.ofNat q.1.2.1)) 164 (80 * B + k) (Int32.ofNat q.1.2.2) = S8 at *
    have o8 : of_f (fun a b => 162 ≤ a ∧ a ≤ 164 ∧ b = 80 * B + k) S7 S8 := by
      rw [← hS8]
      exact of_i (by omega) (of_i (by omega) (of_i (by omega) of_refl))
    rw [show mn + mm_nz q.1 + mm_i q.1 = mn + q.1.2.1 by omega] at h7 t7
    have hma7 : ma6 ≤ mn + q.1.2.1 := by
      unfold mm_nz at i6
      split at i6 <;> omega
    obtain ⟨a1, a2, a3, a4, a5, a6, a7, a8, a9, a10, a11, a12, a13, a14, a15⟩ := h7
    refine ⟨S8, mn + q.1.2.1, ma6, g1, ⟨by rw [o8.1 135 66 (by omega)]; exact a2, by rw [o8.1 135 67 (by omega)]; exact a3, by rw [o8.1 135 68 (by omega)]; exact a4, by rw [o8.1 135 69 (by omega)]; exact a5, by rw [o8.1 135 71 (by omega)]; exact a7, by rw [o8.1 135 73 (by omega)]; exact a8, by omega, hma7, a13, by rw [o8.1 135 65 (by omega)]; exact a15.1, a15.2.1, fun j hj => ?_⟩, Nat.le_add_right _ _, j6, ⟨x7, by rw [← hS8, fr_ne (by omega), fr_ne (by omega), fr_eq], ?_⟩, by rw [← hS8, fr_ne (by omega), fr_eq], by rw [← hS8, fr_eq], ?_⟩
    · obtain ⟨l1, l2, l3⟩ := a15.2.2 j hj
      exact ⟨by rw [o8.1 159 _ (by omega)]; exact l1, by rw [o8.1 160 _ (by omega)]; exact l2, fun i hi => by rw [o8.1 161 _ (by omega)]; exact l3 i hi⟩
    · exact mj_t_m (Nat.le_refl _) (Nat.le_refl _) (Nat.le_refl _) (Nat.le_refl _) (mj_g_o o8 (fun a x q1 q2 q3 q4 => by omega) (fun x q1 q2 => by omega)) _ _ _ t7
    · exact of_trans (of_mono (fun a b q => Or.inl q) (o5 0 0 mn ma rfl)) (of_trans (of_mono (fun a b q => Or.inl q) o6) (of_trans (of_mono (fun a b q => Or.inl q) (mm_nw hX (by have := h6.2.2.2.2.2.2.2.2.2.2.1; omega) o7 (Nat.le_add_right _ _))) (of_mono (fun a b q => Or.inr q) o8)))
end Mmd
end
/-! part b23 -/
section
/-! The reference's make(), whole. -/
section Mme
variable {B h : Nat} {pg ds : pg_T} {S0 S S' S1 S2 S3 S9 : wd_S} {s s' : mk_S} {k n mn ma ml mn' ma' y z d r c p i f m a g K V : Nat} {t : tr_T} {x v : Int32} {kn : Nat → Int32}
theorem md_o (hB : B ≤ 1) (ho : of_f (fun a b => mm_F B 0 0 mn ma a b ∨ (162 ≤ a ∧ a ≤ 164 ∧ b = 80 * B + ds.length)) S S') (hmn : mn ≤ mn') (hma : ma ≤ ma') (h : md_D B mn ma ds S) : md_D B mn' ma' ds S' := fun j hj => by
  obtain ⟨y, h1, h2, h3, h4⟩ := h j hj
  have w : ∀ a, 162 ≤ a → a ≤ 164 → S'.1 a (80 * B + j) = S.1 a (80 * B + j) := fun a q1 q2 => ho.1 a _ (by unfold mm_F; omega)
  exact ⟨y, by rw [w 162 (by omega) (by omega)]; exact h1, mj_t_m (Nat.le_refl _) (by omega) (Nat.le_refl _) (by omega) (mj_g_o ho (fun a x q1 q2 q3 q4 => by unfold mm_F; omega) (fun x q1 q2 => by unfold mm_F; omega)) _ _ _ h2, by rw [w 163 (by omega) (by omega)]; exact h3, by rw [w 164 (by omega) (by omega)]; exact h4⟩
theorem me_F_w (hk : k < 80) : ∀ a b, (mm_F B 0 0 mn ma a b ∨ (162 ≤ a ∧ a ≤ 164 ∧ b = 80 * B + k)) → me_F B a b := fun a b q => by
  rcases q with q | q
  · exact Or.inl (mm_F_le (Nat.le_refl _) (Nat.le_refl _) (Nat.zero_le _) (Nat.zero_le _) a b q)
  · exact Or.inr (by omega)
theorem mo_lp : ∀ (F k : Nat) (ds : pg_T) (s : mk_S) (mn ma G : Nat) (S : wd_S), F + k = 79 → mm_X B h pg S → mb_h B h pg s mn ma S → ds.length = k → k ≤ s.1.length → md_D B mn ma ds S → match mk_lp pg F k ds s with
    | .error none => True
    | .error (some _) => ∃ S', fn_Mo_make_172 (G + 1 + F) (Int32.ofNat k) S = fn_Mo_make_208 S' ∧ ¬S'.1 135 73 = 0 ∧ of_f (me_F B) S S'
    | .ok q => ∃ S' mn' ma', fn_Mo_make_172 (G + 1 + F) (Int32.ofNat k) S = fn_Mo_make_208 S' ∧ mb_h B h pg q.2 mn' ma' S' ∧ md_D B mn' ma' q.1 S' ∧ q.1.length = q.2.1.length ∧ of_f (me_F B) S S' := by
  intro F
  induction F with
  | zero => intro k ds s mn ma G S _ _ _ _ _ _; trivial
  | succ F ih =>
    intro k ds s mn ma G S hF hX hh hdl hkl hD
    have hB := hX.1
    have hpl := hX.2.2.2.2.1
    have hlv := mk_ok_len hh.2.2.2.2.2.2.2.2.2.2.1
    have e64 := hX.2.2.1
    have e65 := hh.2.2.2.2.2.2.2.2.2.1
    have e73 := hh.2.2.2.2.2.1
    unfold mk_lp
    show match (match s.1[k]? with | none => .ok (ds, s) | some v => _ : Except mk_E (pg_T × mk_S)) with
      | .error none => True
      | .error (some _) => ∃ S', fn_Mo_make_172 (G + 1 + F + 1) (Int32.ofNat k) S = fn_Mo_make_208 S' ∧ ¬S'.1 135 73 = 0 ∧ of_f (me_F B) S S'
      | .ok q => ∃ S' mn' ma', fn_Mo_make_172 (G + 1 + F + 1) (Int32.ofNat k) S = fn_Mo_make_208 S' ∧ mb_h B h pg q.2 mn' ma' S' ∧ md_D B mn' ma' q.1 S' ∧ q.1.length = q.2.1.length ∧ of_f (me_F B) S S'
    have e8 : (80 : Int32) * Int32.ofNat B + Int32.ofNat k = Int32.ofNat (80 * B + k) := by rw [show (80 : Int32) = Int32.ofNat 80 from rfl, im_ma]
    rw [fn_Mo_make_172, e65, e64, e8]
    by_cases hk : k < s.1.length
    · rw [List.getElem?_eq_getElem hk]
      dsimp only
      rw [if_pos ((im_lt (by omega) (by omega)).mpr hk), if_pos e73, im_s]
      have hmv := mo_mv hX hh hk
      cases hm : mk pg 96 (mk_e (pg_n pg s.1[k].1) s.1[k]) s ((pg_P pg).getD s.1[k].1 tr_z) with
      | error e =>
        rw [hm] at hmv
        cases e with
        | none => trivial
        | some e =>
          obtain ⟨S1, f1, g1, o1⟩ := hmv
          rw [f1, wd_d_s]
          refine ⟨S1, ?_, g1, o1⟩
          rw [show G + 1 + F = G + F + 1 by omega, fn_Mo_make_172, if_neg g1, ite_self]
      | ok q =>
        rw [hm] at hmv
        obtain ⟨S1, mn1, ma1, f1, h1, l1, l2, ⟨y1, y2, y3⟩, y4, y5, o1⟩ := hmv
        rw [f1, wd_d_s]
        have oA : of_f (me_F B) S S1 := of_mono (me_F_w (by omega)) o1
        have hX1 := me_X hX oA
        have hD1 : md_D B mn1 ma1 ds S1 := md_o hB (by rw [hdl]; exact o1) l1 l2 hD
        have := ih (k + 1) (ds ++ [(mk_lf s.1[k].2.1 (pg_n pg s.1[k].1), q.1.1, q.1.2.1, q.1.2.2)]) q.2.2 mn1 ma1 G S1 (by omega) hX1 h1 (by rw [List.length_append]; show ds.length + 1 = k + 1; omega) (Nat.lt_of_lt_of_le hk (mk_pre _ _ _ _ _ hm).length_le) (fun j hj => by
          rw [List.length_append] at hj
          have hj : j < ds.length + 1 := hj
          by_cases e : j = ds.length
          · subst e
            rw [List.getElem_append_right (Nat.le_refl _)]
            simp only [Nat.sub_self, List.getElem_cons_zero]
            rw [hdl]
            exact ⟨y1, y2, y3, y4, y5⟩
          · rw [List.getElem_append_left (show j < ds.length by omega)]
            exact hD1 j (by omega))
        show match mk_lp pg F (k + 1) (ds ++ [(mk_lf s.1[k].2.1 (pg_n pg s.1[k].1), q.1.1, q.1.2.1, q.1.2.2)]) q.2.2 with
          | .error none => True
          | .error (some _) => ∃ S', fn_Mo_make_172 (G + 1 + F) (Int32.ofNat (k + 1)) S1 = fn_Mo_make_208 S' ∧ ¬S'.1 135 73 = 0 ∧ of_f (me_F B) S S'
          | .ok q => ∃ S' mn' ma', fn_Mo_make_172 (G + 1 + F) (Int32.ofNat (k + 1)) S1 = fn_Mo_make_208 S' ∧ mb_h B h pg q.2 mn' ma' S' ∧ md_D B mn' ma' q.1 S' ∧ q.1.length = q.2.1.length ∧ of_f (me_F B) S S'
        cases hq : mk_lp pg F (k + 1) (ds ++ [(mk_lf s.1[k].2.1 (pg_n pg s.1[k].1), q.1.1, q.1.2.1, q.1.2.2)]) q.2.2 with
        | error e =>
          rw [hq] at this
          cases e with
          | none => trivial
          | some e =>
            obtain ⟨S4, e4, n4, o4⟩ := this
            exact ⟨S4, e4, n4, of_trans oA o4⟩
        | ok w =>
          rw [hq] at this
          obtain ⟨S4, mn4, ma4, e4, h4, d4, l4, o4⟩ := this
          exact ⟨S4, mn4, ma4, e4, h4, d4, l4, of_trans oA o4⟩
    · have hk2 : k = s.1.length := by omega
      rw [List.getElem?_eq_none (by omega)]
      dsimp only
      exact ⟨S, mn, ma, by rw [hk2, if_neg Int32.lt_irrefl], hh, hD, by omega, of_refl⟩
theorem mk_mod : ∀ m, m < 16 → ∀ n, n < 5 → mk_mk (mk_bt m) n = m % 2 ^ n := by decide +kernel
/-- what is KNOWN -/
theorem mo_108 (hm : m < 16) (ha : a ≤ 4) (hg : g < 96) (h138 : S.1 138 g = Int32.ofNat a) (hk : kn_is m S) (h174 : ∀ i, i < 4 → S.1 174 i = kn i) : ∀ (r i F : Nat) (S1 : wd_S), i + r = a → of_f (fun a b => a = 171) S S1 → (∀ j, j < i → S1.1 171 j = kn j) → ∃ S', fn_Mo_make_108 (F + 1 + r) (Int32.ofNat g) (Int32.ofNat (mk_mk (mk_bt m) i)) (Int32.ofNat i) S1 = fn_Mo_make_108 (F + 1) (Int32.ofNat g) (Int32.ofNat (m % 2 ^ a)) (Int32.ofNat a) S' ∧ of_f (fun a b => a = 171) S S' ∧ ∀ j, j < a → S'.1 171 j = kn j := by
  intro r
  induction r with
  | zero =>
    intro i F S1 hi ho hj
    have hi : i = a := hi
    subst hi
    exact ⟨S1, by rw [Nat.add_zero, mk_mod m hm i (by omega)], ho, hj⟩
  | succ r ih =>
    intro i F S1 hi ho hj
    have fin : ∃ S', fn_Mo_make_138 (fn_Mo_make_108 (F + 1 + r)) (Int32.ofNat g) (Int32.ofNat i) (Int32.ofNat (mk_mk (mk_bt m) i)) (if mk_bt m i = true then ((1 : Int32) <<< (Int32.ofNat i &&& 31)) else 0) S1 = fn_Mo_make_108 (F + 1) (Int32.ofNat g) (Int32.ofNat (m % 2 ^ a)) (Int32.ofNat a) S' ∧ of_f (fun a b => a = 171) S S' ∧ ∀ j, j < a → S'.1 171 j = kn j := by
      have eo : Int32.ofNat (mk_mk (mk_bt m) i) ||| (if mk_bt m i = true then ((1 : Int32) <<< (Int32.ofNat i &&& 31)) else 0) = Int32.ofNat (mk_mk (mk_bt m) (i + 1)) := by
        show _ = Int32.ofNat (mk_mk (mk_bt m) i + (if mk_bt m i = true then 2 ^ i else 0))
        cases mk_bt m i with
        | true => rw [if_pos (rfl : true = true), if_pos (rfl : true = true)]; exact mk_i_or i (by omega) _ (mk_mk_lt _ i)
        | false => rw [if_neg (show ¬false = true by decide), if_neg (show ¬false = true by decide), Nat.add_zero, Int32.or_zero]
      unfold fn_Mo_make_138
      simp only [wd_b]
      rw [if_neg (ms_in (show i < 4 by omega) (by decide)), if_neg (ms_in (show i < 4 by omega) (by decide)), im_t (show i < 2147483648 by omega), eo, im_s, ho.1 174 i (by omega), h174 i (by omega)]
      refine ih (i + 1) F _ (by omega) (of_i rfl ho) (fun j h1 => ?_)
      by_cases e : j = i
      · rw [e, fr_eq]
      · rw [fr_ne (by omega)]; exact hj j (by omega)
    show ∃ S', fn_Mo_make_108 (F + 1 + r + 1) (Int32.ofNat g) (Int32.ofNat (mk_mk (mk_bt m) i)) (Int32.ofNat i) S1 = _ ∧ _
    rw [fn_Mo_make_108, if_neg (ms_in hg (by decide)), im_t (show g < 2147483648 by omega), ho.1 138 g (by omega), h138, if_pos ((im_lt (by omega) (by omega)).mpr (by omega)), if_neg (ms_in (show i < 4 by omega) (by decide)), im_t (show i < 2147483648 by omega), ho.1 173 i (by omega), hk i (by omega)]
    by_cases e : m / 2 ^ i % 2 = 1
    · have eb : mk_bt m i = true := decide_eq_true e
      rw [eb, if_pos (rfl : true = true)] at fin
      rw [if_pos e, if_neg (show ¬(1 : Int32) = 0 by decide)]
      exact fin
    · have eb : mk_bt m i = false := decide_eq_false e
      rw [eb, if_neg (show ¬false = true by decide)] at fin
      rw [if_neg e, if_pos rfl]
      exact fin
theorem mo_273 : ∀ (r i F : Nat) (S1 : wd_S), i + r = 4 → of_f (fun a b => a = 173) S S1 → (∀ j, j < i → S1.1 173 j = 0) → ∃ S', fn_Mo_make_273 (F + 1 + r) (Int32.ofNat i) S1 = some (S.1 135 59, S') ∧ of_f (fun a b => a = 173) S S' ∧ ∀ j, j < 4 → S'.1 173 j = 0 := by
  intro r
  induction r with
  | zero =>
    intro i F S1 hi ho hj
    have hi : i = 4 := hi
    subst hi
    refine ⟨S1, ?_, ho, hj⟩
    rw [Nat.add_zero, fn_Mo_make_273, if_neg (show ¬Int32.ofNat 4 < 4 by decide), ho.1 135 59 (by omega)]
  | succ r ih =>
    intro i F S1 hi ho hj
    show ∃ S', fn_Mo_make_273 (F + 1 + r + 1) (Int32.ofNat i) S1 = _ ∧ _
    rw [fn_Mo_make_273, if_pos (show Int32.ofNat i < 4 from (im_lt (m := i) (n := 4) (by omega) (by omega)).mpr (by omega)), if_neg (fun q => by rcases q with q | q; exact ms_in (show i < 4 by omega) (by decide) q; exact q fo_b0)]
    simp only [wd_b]
    rw [im_t (show i < 2147483648 by omega), im_s]
    refine ih (i + 1) F _ (by omega) (of_i rfl ho) (fun j h1 => ?_)
    by_cases e : j = i
    · rw [e, fr_eq]
    · rw [fr_ne (by omega)]; exact hj j (by omega)
/-- what a make() of the reference may write -/
def mf_F (B a b : Nat) : Prop := me_F B a b ∨ (a = 135 ∧ (b = 0 ∨ b = 64))
def mg_F (B a b : Nat) : Prop := mf_F B a b ∨ (a = 135 ∧ (b = 63 ∨ (59 ≤ b ∧ b ≤ 62) ∨ b = 72)) ∨ a = 173
theorem mo_isfn {p : Int32} (h41 : S.1 135 41 = 1) (hh : h ≤ 1) (h42 : S.1 135 42 = Int32.ofNat h) (h150 : S.1 150 h = Int32.ofNat n) (hn : 1 ≤ n) (hn2 : n ≤ 1000) : fn_Mo_isFn p S = some (if p < 0 ∨ ¬p < Int32.ofNat n then 0 else 1, S) := by
  obtain ⟨n, rfl⟩ : ∃ q, n = q + 1 := ⟨n - 1, by omega⟩
  unfold fn_Mo_isFn fn_Mo_isFn_32 fn_Mo_isFn_33
  rw [h41, if_neg (show ¬(1 : Int32) = 0 by decide), h42, if_neg (ms_in (show h < 2 by omega) (by decide)), im_t (show h < 2147483648 by omega), h150, im_p, sm_z, sm_in, wd_c_s]
  have e : (p < 0 ∨ Int32.ofNat n < p) ↔ (p < 0 ∨ ¬p < Int32.ofNat (n + 1)) := by
    by_cases hp : p < 0
    · exact ⟨fun _ => Or.inl hp, fun _ => Or.inl hp⟩
    · have e1 := im_of hp
      have e2 : p.toNatClampNeg < 2147483648 := by have := im_tn hp; have := Int32.toInt_lt p; omega
      constructor
      · intro q
        rcases q with q | q
        · exact Or.inl q
        · refine Or.inr (fun w => ?_)
          rw [← e1] at q w
          have := (im_lt (by omega) e2).mp q
          have := (im_lt e2 (by omega)).mp w
          omega
      · intro q
        rcases q with q | q
        · exact Or.inl q
        · refine Or.inr ?_
          rw [← e1] at q ⊢
          refine (im_lt (by omega) e2).mpr ?_
          have : ¬p.toNatClampNeg < n + 1 := fun w => q ((im_lt e2 (by omega)).mpr w)
          omega
  by_cases hq : p < 0 ∨ Int32.ofNat n < p
  · rw [if_pos hq, if_pos rfl, if_pos fo_b0, if_pos (e.mp hq)]
  · rw [if_neg hq, if_neg (show ¬(1 : Int32) = 0 by decide), if_pos fo_b1, if_neg (fun w => hq (e.mpr w))]
end Mme
end
/-! part b24 -/
section
/-! make() of the reference. -/
section Mmf
variable {B h : Nat} {pg ds : pg_T} {S0 S S' S1 S2 S3 S9 : wd_S} {s s' : mk_S} {k n mn ma ml mn' ma' y z d r c i f m a g K V : Nat} {t : tr_T} {x v p : Int32} {kn : Nat → Int32}
theorem mo_make_x (h41 : S.1 135 41 = 0) : fn_Mo_make p S = some (0, wd_i S 135 0 1) := by
  unfold fn_Mo_make fn_Mo_make_25
  simp only [wd_b]
  rw [if_pos h41, fr_eq, if_pos (by decide)]
theorem mo_make_i (h41 : S.1 135 41 = 1) (hh : h ≤ 1) (h42 : S.1 135 42 = Int32.ofNat h) (h150 : S.1 150 h = Int32.ofNat n) (hn : 1 ≤ n) (hn2 : n ≤ 1000) (hp : p < 0 ∨ ¬p < Int32.ofNat n) : fn_Mo_make p S = some (0, wd_i S 135 0 2) := by
  unfold fn_Mo_make fn_Mo_make_25
  simp only [wd_b]
  rw [h41, if_neg (show ¬(1 : Int32) = 0 by decide), mo_isfn h41 hh h42 h150 hn hn2, wd_c_s, if_pos hp, if_pos rfl, fr_eq, if_pos (by decide)]
theorem mo_make_ok (hV : V ≤ 1) (hBV : B = 1 - V) (h63 : S.1 135 63 = Int32.ofNat V) (h41 : S.1 135 41 = 1) (hh : h ≤ 1) (h42 : S.1 135 42 = Int32.ofNat h) (h150 : S.1 150 h = Int32.ofNat pg.length) (hP : mo_P h pg S) (hpl : pg.length ≤ 48) (hpn : ∀ f, pg_n pg f ≤ 4) (hf : f < pg.length) (hm : m < 16) (hk : kn_is m S) (h174 : ∀ i, i < 4 → S.1 174 i = kn i) : match mk_all pg f (m % 2 ^ pg_n pg f) kn with
    | .error none => True
    | .error (some _) => ∃ S', fn_Mo_make (Int32.ofNat f) S = some (0, S') ∧ S'.1 135 0 = 3 ∧ of_f (mf_F B) S S'
    | .ok q => ∃ S' mn ma, fn_Mo_make (Int32.ofNat f) S = some (Int32.ofNat q.2.1.length, S') ∧ S'.1 135 0 = 0 ∧ S'.1 135 63 = Int32.ofNat B ∧ S'.1 135 59 = Int32.ofNat q.2.1.length ∧ (∀ j, j < 4 → S'.1 173 j = 0) ∧ mm_v B h pg q.2.1 S' ∧ md_D B mn ma q.1 S' ∧ mn ≤ 1000 ∧ ma ≤ 1000 ∧ q.1.length = q.2.1.length ∧ of_f (mg_F B) S S' := by
  have hB : B ≤ 1 := by omega
  have hpf := hpn f
  obtain ⟨x138, -⟩ := hP f hf
  have hpq : pg[f].1 = pg_n pg f := by
    unfold pg_n
    rw [List.getD_eq_getElem?_getD, List.getElem?_eq_getElem hf]
    rfl
  rw [hpq] at x138
  have eB : (1 : Int32) - Int32.ofNat V = Int32.ofNat B := by
    have e1 : (1 : Int32) = Int32.ofNat (B + V) := by rw [show B + V = 1 by omega]; rfl
    rw [e1, im_sb]
  have eg : (48 : Int32) * Int32.ofNat h + Int32.ofNat f = Int32.ofNat (48 * h + f) := by rw [show (48 : Int32) = Int32.ofNat 48 from rfl, im_ma]
  have e67 : (3004 : Int32) + 6002 * Int32.ofNat B = Int32.ofNat (3004 + 6002 * B + 0) := by
    rw [← mm_ad B 0]
    exact (Int32.add_zero _).symm
  have hnf : ¬(Int32.ofNat f < 0 ∨ ¬Int32.ofNat f < Int32.ofNat pg.length) := fun q => by
    rcases q with q | q
    · exact im_neg (by omega) q
    · exact q ((im_lt (by omega) (by omega)).mpr hf)
  generalize hS1 : wd_i (wd_i (wd_i (wd_i (wd_i (wd_i (wd_i (wd_i (wd_i S 135 0 0) 135 64 (Int32.ofNat B)) 135 65 0) 135 66 0) 135 67 (Int32.ofNat (3004 + 6002 * B + 0))) 135 68 0) 135 69 0) 135 71 0) 135 73 0 = S1
  have o1 : of_f (fun a b => a = 135 ∧ (b = 0 ∨ (64 ≤ b ∧ b ≤ 69) ∨ b = 71 ∨ b = 73)) S S1 := by
    rw [← hS1]
    exact of_i (by omega) (of_i (by omega) (of_i (by omega) (of_i (by omega) (of_i (by omega) (of_i (by omega) (of_i (by omega) (of_i (by omega) (of_i (by omega) of_refl))))))))
  have c73 : S1.1 135 73 = 0 := by rw [← hS1, fr_eq]
  have c71 : S1.1 135 71 = 0 := by rw [← hS1, fr_ne (by omega), fr_eq]
  have c69 : S1.1 135 69 = 0 := by rw [← hS1, fr_ne (by omega), fr_ne (by omega), fr_eq]
  have c68 : S1.1 135 68 = 0 := by rw [← hS1, fr_ne (by omega), fr_ne (by omega), fr_ne (by omega), fr_eq]
  have c67 : S1.1 135 67 = Int32.ofNat (3004 + 6002 * B + 0) := by rw [← hS1, fr_ne (by omega), fr_ne (by omega), fr_ne (by omega), fr_ne (by omega), fr_eq]
  have c66 : S1.1 135 66 = 0 := by rw [← hS1, fr_ne (by omega), fr_ne (by omega), fr_ne (by omega), fr_ne (by omega), fr_ne (by omega), fr_eq]
  have c65 : S1.1 135 65 = 0 := by rw [← hS1, fr_ne (by omega), fr_ne (by omega), fr_ne (by omega), fr_ne (by omega), fr_ne (by omega), fr_ne (by omega), fr_eq]
  have c64 : S1.1 135 64 = Int32.ofNat B := by rw [← hS1, fr_ne (by omega), fr_ne (by omega), fr_ne (by omega), fr_ne (by omega), fr_ne (by omega), fr_ne (by omega), fr_ne (by omega), fr_eq]
  have c0 : S1.1 135 0 = 0 := by rw [← hS1, fr_ne (by omega), fr_ne (by omega), fr_ne (by omega), fr_ne (by omega), fr_ne (by omega), fr_ne (by omega), fr_ne (by omega), fr_ne (by omega), fr_eq]
  have e1 : fn_Mo_make (Int32.ofNat f) S = fn_Mo_make_108 wd_F (Int32.ofNat (48 * h + f)) 0 0 S1 := by
    unfold fn_Mo_make fn_Mo_make_25
    simp only [wd_b]
    rw [h41, if_neg (show ¬(1 : Int32) = 0 by decide), mo_isfn h41 hh h42 h150 (by omega) (by omega), wd_c_s, if_neg hnf, if_neg (show ¬(1 : Int32) = 0 by decide), fr_eq, if_neg (by decide), fr_ne (show ¬(135 = 135 ∧ 63 = 0) by omega), h63, eB, fr_ne (show ¬(135 = 135 ∧ 64 = 66) by omega), fr_ne (show ¬(135 = 135 ∧ 64 = 65) by omega), fr_eq, e67, hS1, fr_ne (show ¬(135 = 135 ∧ 42 = 0) by omega), h42, eg]
  obtain ⟨S2, f2, o2, k2⟩ := mo_108 (S := S1) (kn := kn) hm hpf (show 48 * h + f < 96 by omega) (by rw [o1.1 138 _ (by omega)]; exact x138) (fun i hi => by rw [o1.1 173 i (by omega)]; exact hk i hi) (fun i hi => by rw [o1.1 174 i (by omega)]; exact h174 i hi) (pg_n pg f) 0 (999999 - pg_n pg f) S1 (Nat.zero_add _) of_refl (fun j hj => absurd hj (Nat.not_lt_zero _))
  rw [show 999999 - pg_n pg f + 1 + pg_n pg f = wd_F by rw [show wd_F = 1000000 from rfl]; omega] at f2
  have f2 : fn_Mo_make_108 wd_F (Int32.ofNat (48 * h + f)) 0 0 S1 = _ := f2
  generalize hmm : m % 2 ^ pg_n pg f = m' at *
  have hm' : m' < 2 ^ pg_n pg f := by rw [← hmm]; exact Nat.mod_lt _ (Nat.two_pow_pos _)
  have hp16 : 2 ^ pg_n pg f ≤ 2 ^ 4 := Nat.pow_le_pow_right (by decide) hpf
  have vE : mk_ok pg [] := ⟨fun q hq => absurd hq List.not_mem_nil, fun q hq => by rw [List.drop_nil] at hq; exact absurd hq List.not_mem_nil, by rw [List.drop_nil]; exact List.nodup_nil⟩
  have hok : mk_ok pg ([] ++ [mk_new f m' kn]) := mk_ok_add vE hf hm' (Or.inl (by decide))
  have v2 : mm_v B h pg [] S2 := ⟨by rw [o2.1 135 65 (by omega)]; exact c65, vE, fun j hj => absurd hj (Nat.not_lt_zero _)⟩
  have hkn : ∀ i, i < 4 → mk_bt m' i = true → S2.1 171 i = kn i := fun i hi hb => by
    rcases Nat.lt_or_ge i (pg_n pg f) with q | q
    · exact k2 i q
    · rw [mk_bt_lt hm' q] at hb; cases hb
  obtain ⟨S3, f3, o3, v3⟩ := mv_add (f := f) (m := m') (kn := kn) hB v2 hpl hpn hok hkn
  have e3 : fn_Mo_make_108 (999999 - pg_n pg f + 1) (Int32.ofNat (48 * h + f)) (Int32.ofNat m') (Int32.ofNat (pg_n pg f)) S2 = fn_Mo_make_172 wd_F 0 S3 := by
    rw [fn_Mo_make_108, if_neg (ms_in (show 48 * h + f < 96 by omega) (by decide)), im_t (show 48 * h + f < 2147483648 by omega), o2.1 138 _ (by omega), o1.1 138 _ (by omega), x138, if_neg Int32.lt_irrefl, mv_of (vs := []) hB hh (by rw [o2.1 135 64 (by omega)]; exact c64) (show m' < 16 by omega) (by omega) v2 hpl hpn hkn]
    show wd_c (mv_tl _ _ _ _ _) _ = _
    unfold mv_tl
    rw [if_neg (show ¬(1 : Int32) = 0 by decide), f3, wd_c_s]
  have oA : of_f (fun a b => (a = 135 ∧ (b = 0 ∨ (64 ≤ b ∧ b ≤ 69) ∨ b = 71 ∨ b = 73)) ∨ a = 171 ∨ ((a = 159 ∨ a = 160) ∧ 80 * B ≤ b ∧ b < 80 * B + 80) ∨ (a = 161 ∧ 320 * B ≤ b ∧ b < 320 * B + 320)) S S3 := of_trans (of_mono (fun a b q => Or.inl q) o1) (of_trans (of_mono (fun a b q => Or.inr (Or.inl q)) o2) (of_mono (fun a b q => by omega) o3))
  have wA : ∀ a b, ((a = 135 ∧ (b = 0 ∨ (64 ≤ b ∧ b ≤ 69) ∨ b = 71 ∨ b = 73)) ∨ a = 171 ∨ ((a = 159 ∨ a = 160) ∧ 80 * B ≤ b ∧ b < 80 * B + 80) ∨ (a = 161 ∧ 320 * B ≤ b ∧ b < 320 * B + 320)) → mf_F B a b := fun a b q => by
    rcases q with q | q | q | q
    · by_cases w : b = 0 ∨ b = 64
      · exact Or.inr ⟨q.1, w⟩
      · exact Or.inl (Or.inl (Or.inl ⟨q.1, by omega⟩))
    · exact Or.inl (Or.inl (mm_171_F a b q))
    · exact Or.inl (Or.inl (Or.inr (Or.inr (Or.inr (Or.inr (Or.inr (Or.inr (Or.inr (Or.inl q)))))))))
    · exact Or.inl (Or.inl (Or.inr (Or.inr (Or.inr (Or.inr (Or.inr (Or.inr (Or.inr (Or.inr (Or.inl q))))))))))
  have oF : of_f (mf_F B) S S3 := of_mono wA oA
  have hX3 : mm_X B h pg S3 := by
    refine ⟨hB, hh, by rw [o3.1 135 64 (by omega), o2.1 135 64 (by omega)]; exact c64, fun j hj => ?_, hpl, hpn⟩
    exact mo_F_o (fun a q1 q2 => oA.1 a _ (by omega)) (mj_g_o oA (fun a x q1 q2 q3 q4 => by omega) (fun x q1 q2 => by omega)) (Nat.le_refl _) (Nat.le_refl _) (hP j hj)
  have e5 : ∀ b, b ≠ 65 → S3.1 135 b = S1.1 135 b := fun b hb => by rw [o3.1 135 b (by omega), o2.1 135 b (by omega)]
  have h3 : mb_h B h pg ([mk_new f m' kn], 0, 0, 0) 0 0 S3 := ⟨by rw [e5 66 (by decide)]; exact c66, by rw [e5 67 (by decide)]; exact c67, by rw [e5 68 (by decide)]; exact c68, by rw [e5 69 (by decide)]; exact c69, by rw [e5 71 (by decide)]; exact c71, by rw [e5 73 (by decide)]; exact c73, Nat.le_refl _, Nat.le_refl _, Nat.zero_le _, v3⟩
  have hlp := mo_lp 79 0 [] ([mk_new f m' kn], 0, 0, 0) 0 0 (999999 - 79) S3 rfl hX3 h3 rfl (Nat.zero_le _) (fun j hj => absurd hj (Nat.not_lt_zero _))
  have hlp : match mk_all pg f m' kn with
      | .error none => True
      | .error (some _) => ∃ S', fn_Mo_make_172 wd_F 0 S3 = fn_Mo_make_208 S' ∧ ¬S'.1 135 73 = 0 ∧ of_f (me_F B) S3 S'
      | .ok q => ∃ S' mn' ma', fn_Mo_make_172 wd_F 0 S3 = fn_Mo_make_208 S' ∧ mb_h B h pg q.2 mn' ma' S' ∧ md_D B mn' ma' q.1 S' ∧ q.1.length = q.2.1.length ∧ of_f (me_F B) S3 S' := hlp
  rw [e1, f2, e3]
  have z3 : S3.1 135 0 = 0 := by rw [e5 0 (by decide)]; exact c0
  cases hq : mk_all pg f m' kn with
  | error e =>
    rw [hq] at hlp
    cases e with
    | none => trivial
    | some e =>
      obtain ⟨S4, f4, g4, o4⟩ := hlp
      refine ⟨wd_i S4 135 0 3, ?_, fr_eq, of_i (Or.inr (by omega)) (of_trans oF (of_mono (fun a b q => Or.inl q) o4))⟩
      rw [f4]
      unfold fn_Mo_make_208
      rw [if_neg g4]
      rfl
  | ok q =>
    rw [hq] at hlp
    obtain ⟨S4, mn4, ma4, f4, h4, d4, l4, o4⟩ := hlp
    rw [f4]
    have e63 : S4.1 135 64 = Int32.ofNat B := (me_X hX3 o4).2.2.1
    have e65 := h4.2.2.2.2.2.2.2.2.2.1
    have z4 : S4.1 135 0 = 0 := by rw [o4.1 135 0 (by unfold me_F mm_F; omega)]; exact z3
    unfold fn_Mo_make_208
    simp only [wd_b]
    rw [if_pos h4.2.2.2.2.2.1, e63, fr_ne (show ¬(135 = 135 ∧ 65 = 63) by omega), e65]
    generalize hS5 : wd_i (wd_i (wd_i (wd_i (wd_i (wd_i S4 135 63 (Int32.ofNat B)) 135 59 (Int32.ofNat q.2.1.length)) 135 60 _) 135 61 _) 135 62 _) 135 72 _ = S5
    have o5 : of_f (fun a b => a = 135 ∧ (b = 63 ∨ (59 ≤ b ∧ b ≤ 62) ∨ b = 72)) S4 S5 := by
      rw [← hS5]
      exact of_i (by omega) (of_i (by omega) (of_i (by omega) (of_i (by omega) (of_i (by omega) (of_i (by omega) of_refl)))))
    have y59 : S5.1 135 59 = Int32.ofNat q.2.1.length := by rw [← hS5, fr_ne (by omega), fr_ne (by omega), fr_ne (by omega), fr_ne (by omega), fr_eq]
    have y63 : S5.1 135 63 = Int32.ofNat B := by rw [← hS5, fr_ne (by omega), fr_ne (by omega), fr_ne (by omega), fr_ne (by omega), fr_ne (by omega), fr_eq]
    clear hS5
    obtain ⟨S6, f6, o6, k6⟩ := mo_273 (S := S5) 4 0 999995 S5 rfl of_refl (fun j hj => absurd hj (Nat.not_lt_zero _))
    have f6 : fn_Mo_make_273 wd_F 0 S5 = some (S5.1 135 59, S6) := f6
    have o56 : of_f (fun a b => (a = 135 ∧ (b = 63 ∨ (59 ≤ b ∧ b ≤ 62) ∨ b = 72)) ∨ a = 173) S4 S6 := of_trans (of_mono (fun a b q => Or.inl q) o5) (of_mono (fun a b q => Or.inr q) o6)
    rw [f6, y59]
    have hmm4 := h4.2.2.2.2.2.2.1
    have hma4 := h4.2.2.2.2.2.2.2.1
    have hg4 := h4.2.2.2.2.2.2.2.2.1
    have v4 := h4.2.2.2.2.2.2.2.2.2
    refine ⟨S6, mn4, ma4, rfl, by rw [o56.1 135 0 (by omega)]; exact z4, by rw [o6.1 135 63 (by omega)]; exact y63, by rw [o6.1 135 59 (by omega)]; exact y59, k6, ⟨by rw [o56.1 135 65 (by omega)]; exact v4.1, v4.2.1, fun j hj => ?_⟩, fun j hj => ?_, by omega, by omega, l4, of_trans (of_mono (fun a b z => Or.inl z) oF) (of_trans (of_mono (fun a b z => Or.inl (Or.inl z)) o4) (of_mono (fun a b z => by rcases z with z | z; exact Or.inr (Or.inl z); exact Or.inr (Or.inr z)) o56))⟩
    · obtain ⟨l1, l2, l3⟩ := v4.2.2 j hj
      exact ⟨by rw [o56.1 159 _ (by omega)]; exact l1, by rw [o56.1 160 _ (by omega)]; exact l2, fun i hi => by rw [o56.1 161 _ (by omega)]; exact l3 i hi⟩
    · obtain ⟨y, y1, y2, y3, y4⟩ := d4 j hj
      exact ⟨y, by rw [o56.1 162 _ (by omega)]; exact y1, mj_t_m (Nat.le_refl _) (Nat.le_refl _) (Nat.le_refl _) (Nat.le_refl _) (mj_g_o o56 (fun a x q1 q2 q3 q4 => by omega) (fun x q1 q2 => by omega)) _ _ _ y2, by rw [o56.1 163 _ (by omega)]; exact y3, by rw [o56.1 164 _ (by omega)]; exact y4⟩
end Mmf
end
/-! part b25 -/
section
/-! What is PRINTED: numbers in figures, texts, trees. -/
def pr_d (n : Nat) : Nat → List Int32
  | 0 => [48 + Int32.ofNat (n % 10)]
  | k + 1 => (48 + Int32.ofNat (n / 10 ^ (k + 1) % 10)) :: pr_d n k
def pr_k (n : Nat) : Nat → Nat
  | 0 => 0
  | k + 1 => if 10 ^ (k + 1) ≤ n then k + 1 else pr_k n k
def pr_n (n : Nat) : List Int32 := pr_d n (pr_k n 9)
def pr_x (t : Nat) : List Int32 := (tb_txt.getD t []).map Int32.ofNat
def pr_i (v : Int32) : List Int32 := if v = -2147483648 then pr_x 20 else if v < 0 then 45 :: pr_n (-v).toNatClampNeg else pr_n v.toNatClampNeg
abbrev pr_S : Type := Nat × (Nat → Option Nat)
abbrev pr_O : Type := Option (List Int32 × pr_S)
def pr_b (x : pr_O) (f : pr_S → pr_O) : pr_O := match x with
  | none => none
  | some q => match f q.2 with
    | none => none
    | some w => some (q.1 ++ w.1, w.2)
def pr_sx (k : Int32) : Nat := if k = 6 then 27 else if k = 7 then 28 else if k = 8 then 29 else if k = 9 then 30 else 31
def pr_u (L : Nat → Option Nat) (i j : Nat) : Nat → Option Nat := fun m => if m = i then some j else L m
def pr_as (self : pr_S → tr_T → pr_O) (t : tr_T) : Nat → Nat → pr_S → pr_O
  | 0, _, s => some ([41], s)
  | r + 1, j, s => pr_b (some (if j = 0 then [] else pr_x 17, s)) fun s => pr_b (self s (tr_sub t j)) fun s => pr_as self t r (j + 1) s
def pr_in (pn : Nat) (self : pr_S → tr_T → pr_O) (s : pr_S) (t : tr_T) : pr_O := if ev_ok 78 t then (if tr_k t = 1 then some (pr_i (tr_v t), s) else if tr_k t = 2 then (if tr_n t < pn then some ([97 + tr_v t], s) else match s.2 (tr_n t) with
    | none => none
    | some j => some (120 :: pr_n j, s)) else if tr_k t = 3 then pr_b (some (pr_x 21 ++ pr_n s.1 ++ pr_x 22, s.1 + 1, pr_u s.2 (tr_n t) s.1)) (fun s => pr_b (self s (tr_sub t 0)) fun s => pr_b (some (pr_x 23, s)) fun s => pr_b (self s (tr_sub t 1)) fun s => some ([41], s)) else if tr_k t = 4 then pr_b (some (pr_x 24, s)) (fun s => pr_b (self s (tr_sub t 0)) fun s => pr_b (some (pr_x 25, s)) fun s => pr_b (self s (tr_sub t 1)) fun s => pr_b (some (pr_x 26, s)) fun s => pr_b (self s (tr_sub t 2)) fun s => some ([41], s)) else if tr_k t = 5 then pr_b (some (118 :: pr_n (tr_n t) ++ [40], s)) (fun s => pr_as self t (tr_a t) 0 s) else pr_b (some ([40], s)) (fun s => pr_b (self s (tr_sub t 0)) fun s => pr_b (some (pr_x (pr_sx (tr_k t)), s)) fun s => pr_b (self s (tr_sub t 1)) fun s => some ([41], s))) else none
def pr (pn : Nat) : Nat → pr_S → tr_T → pr_O
  | 0 => fun _ _ => none
  | r + 1 => fun s t => pr_in pn (pr pn r) s t
def pr_ps : Nat → Nat → List Int32
  | 0, _ => []
  | r + 1, i => (if i = 0 then [] else pr_x 17) ++ (97 + Int32.ofNat i) :: pr_ps r (i + 1)
/-- a version -/
def pr_v (k pn : Nat) (t : tr_T) : Option (List Int32) := match pr pn 96 (0, fun _ => none) t with
  | none => none
  | some q => some (118 :: pr_n k ++ 40 :: pr_ps pn 0 ++ pr_x 18 ++ q.1 ++ pr_x 19)
def pr_vs : Nat → pg_T → Option (List Int32)
  | _, [] => some []
  | k, d :: r => match pr_v k d.1 d.2.1, pr_vs (k + 1) r with
    | some l, some m => some (l ++ m)
    | _, _ => none
theorem pr_d_l (n : Nat) : ∀ k, (pr_d n k).length = k + 1 := by
  intro k
  induction k with
  | zero => rfl
  | succ k ih => show (pr_d n k).length + 1 = _; rw [ih]
theorem pr_k_le (n : Nat) : ∀ k, pr_k n k ≤ k := by
  intro k
  induction k with
  | zero => exact Nat.le_refl _
  | succ k ih =>
    unfold pr_k
    split
    · exact Nat.le_refl _
    · omega
theorem pr_n_l (n : Nat) : (pr_n n).length ≤ 10 := by
  unfold pr_n
  rw [pr_d_l]
  have := pr_k_le n 9
  omega
theorem pr_i_l (v : Int32) : (pr_i v).length ≤ 17 := by
  unfold pr_i
  split
  · decide
  · split
    · show (pr_n _).length + 1 ≤ 17
      have := pr_n_l (-v).toNatClampNeg
      omega
    · have := pr_n_l v.toNatClampNeg
      omega
/-- of k: 10^k <= n (or k = 0), and n < 10^(k+1) -/
theorem pr_k_ok {n : Nat} : ∀ j, n < 10 ^ (j + 1) → (pr_k n j = 0 ∨ 10 ^ pr_k n j ≤ n) ∧ n < 10 ^ (pr_k n j + 1) := by
  intro j
  induction j with
  | zero => intro h; exact ⟨Or.inl rfl, h⟩
  | succ j ih =>
    intro h
    unfold pr_k
    split
    · next hj => exact ⟨Or.inr hj, h⟩
    · next hj => exact ih (by omega)
theorem pr_k_un {n a b : Nat} (h1 : a = 0 ∨ 10 ^ a ≤ n) (h2 : n < 10 ^ (a + 1)) (h3 : b = 0 ∨ 10 ^ b ≤ n) (h4 : n < 10 ^ (b + 1)) : a = b := by
  rcases Nat.lt_trichotomy a b with q | q | q
  · have : 10 ^ (a + 1) ≤ 10 ^ b := Nat.pow_le_pow_right (by decide) q
    omega
  · exact q
  · have : 10 ^ (b + 1) ≤ 10 ^ a := Nat.pow_le_pow_right (by decide) q
    omega
/-! Ints: quotients of small numbers. -/
theorem im_div {a b : Nat} (ha : a < 2147483648) (hb : b < 2147483648) : Int32.ofNat a / Int32.ofNat b = Int32.ofNat (a / b) := by
  have hq : a / b < 2147483648 := Nat.lt_of_le_of_lt (Nat.div_le_self a b) ha
  apply Int32.toInt_inj.mp
  have hne : Int32.ofNat a ≠ Int32.minValue := fun q => by
    have := im_neg ha
    rw [q] at this
    exact this (by decide)
  rw [Int32.toInt_div_of_ne_left _ _ hne, im_i ha, im_i hb, im_i hq]
  rfl
theorem im_mod {q : Nat} (hq : q < 2147483648) : Int32.ofNat q - Int32.ofNat q / (10 : Int32) * (10 : Int32) = Int32.ofNat (q % 10) := by
  rw [show (10 : Int32) = Int32.ofNat 10 from rfl, im_div hq (by decide), ← Int32.ofNat_mul]
  have e : q = q % 10 + q / 10 * 10 := by omega
  have e2 : Int32.ofNat q = Int32.ofNat (q % 10 + q / 10 * 10) := by rw [← e]
  rw [e2, im_sb]
theorem im_m80 {q : Nat} (hq : q < 2147483648) : Int32.ofNat q - Int32.ofNat q / (80 : Int32) * (80 : Int32) = Int32.ofNat (q % 80) := by
  rw [show (80 : Int32) = Int32.ofNat 80 from rfl, im_div hq (by decide), ← Int32.ofNat_mul]
  have e : q = q % 80 + q / 80 * 80 := by omega
  have e2 : Int32.ofNat q = Int32.ofNat (q % 80 + q / 80 * 80) := by rw [← e]
  rw [e2, im_sb]
theorem pr_10 : ∀ k, k < 10 → 10 ^ k < 2147483648 := by decide
theorem im_neg_n {v : Int32} (h1 : ¬v = -2147483648) (h2 : v < 0) : ¬-v < 0 := by
  intro q
  have e0 : (0 : Int32).toInt = 0 := rfl
  have hm : v.toInt ≠ -2147483648 := fun w => h1 (Int32.toInt_inj.mp (by rw [w]; rfl))
  have hl := Int32.le_toInt v
  have a1 := Int32.lt_iff_toInt_lt.mp h2
  have a2 := Int32.lt_iff_toInt_lt.mp q
  rw [e0] at a1 a2
  rw [Int32.toInt_neg, Int.bmod_eq_of_le (by omega) (by omega)] at a2
  omega
theorem im_tl (v : Int32) : v.toNatClampNeg < 2147483648 := by
  by_cases h : v < 0
  · have : v.toNatClampNeg = 0 := by
      have a1 := Int32.lt_iff_toInt_lt.mp h
      have e0 : (0 : Int32).toInt = 0 := rfl
      rw [e0] at a1
      show v.toInt.toNat = 0
      omega
    omega
  · have := im_tn h
    have := Int32.toInt_lt v
    omega
end
/-! part b26 -/
section
/-! The class's printer: bytes, texts, numbers. -/
def pc_o (w : Bool) (n : Nat) (l : List Int32) (S S' : wd_S) : Prop := of_f (fun a b => (a = 128 ∧ b = 5) ∨ (a = 127 ∧ n ≤ b ∧ b < n + l.length)) S S' ∧ S'.1 128 5 = Int32.ofNat (n + l.length) ∧ (w = true → ∀ j, (hj : j < l.length) → S'.1 127 (n + j) = l[j])
/-- code f prints l -/
def pc_f (w : Bool) (l : List Int32) (f : wd_S → Option wd_S) : Prop := ∀ (n : Nat) (S : wd_S), S.1 128 4 = (if w = true then 1 else 0) → S.1 128 5 = Int32.ofNat n → n + l.length ≤ 40000 → ∃ S', f S = some S' ∧ pc_o w n l S S'
section Pc
variable {w : Bool} {n m k : Nat} {l l1 l2 : List Int32} {S S' S1 S2 : wd_S} {f g : wd_S → Option wd_S} {x : Int32}
theorem pc_cat (h1 : pc_o w n l1 S S1) (h2 : pc_o w (n + l1.length) l2 S1 S2) : pc_o w n (l1 ++ l2) S S2 := by
  obtain ⟨a1, a2, a3⟩ := h1
  obtain ⟨b1, b2, b3⟩ := h2
  have el : (l1 ++ l2).length = l1.length + l2.length := List.length_append
  refine ⟨of_trans (of_mono (fun a b q => by omega) a1) (of_mono (fun a b q => by omega) b1), by rw [b2, el, Nat.add_assoc], fun hw j hj => ?_⟩
  rw [el] at hj
  by_cases e : j < l1.length
  · rw [List.getElem_append_left e, b1.1 127 (n + j) (by omega)]
    exact a3 hw j e
  · rw [List.getElem_append_right (by omega)]
    have := b3 hw (j - l1.length) (by omega)
    rw [show n + l1.length + (j - l1.length) = n + j by omega] at this
    exact this
theorem pc_nil : pc_f w [] (fun S => some S) := fun n S _ h5 _ => ⟨S, rfl, of_refl, h5, fun _ j hj => absurd hj (Nat.not_lt_zero _)⟩
theorem pc_seq (hf : pc_f w l1 f) (hg : pc_f w l2 g) : pc_f w (l1 ++ l2) (fun S => wd_d (f S) g) := fun n S h4 h5 hn => by
  rw [List.length_append] at hn
  obtain ⟨S1, f1, o1⟩ := hf n S h4 h5 (by omega)
  obtain ⟨S2, f2, o2⟩ := hg (n + l1.length) S1 (by rw [o1.1.1 128 4 (by omega)]; exact h4) o1.2.1 (by omega)
  exact ⟨S2, by show wd_d (f S) g = _; rw [f1, wd_d_s, f2], pc_cat o1 o2⟩
theorem pc_127 : (tp_t (126 + 1)).2 = 40000 := rfl
theorem pc_put : pc_f w [x] (fn_Printer_put x) := fun n S h4 h5 hn => by
  have hn : n + 1 ≤ 40000 := hn
  unfold fn_Printer_put fn_Printer_put_19
  simp only [wd_b]
  cases w with
  | false =>
    rw [if_neg (show ¬false = true by decide)] at h4
    rw [if_pos h4, h5, im_s]
    exact ⟨_, rfl, of_i (by omega) of_refl, fr_eq, fun q => by cases q⟩
  | true =>
    rw [if_pos (rfl : true = true)] at h4
    rw [if_neg (by rw [h4]; decide), h5, ro_put_ok, wd_d_s, ro_pn pc_127 (show n < 40000 by omega), fr_ne (show ¬(128 = 126 + 1 ∧ _) by omega), h5, im_s]
    refine ⟨_, rfl, of_i (by omega) (of_i (by show _ ∨ (126 + 1 = 127 ∧ n ≤ n ∧ n < n + 1); omega) of_refl), fr_eq, fun _ j hj => ?_⟩
    have hj : j = 0 := by have : j < 1 := hj; omega
    subst hj
    rw [fr_ne (by omega), fr_e (by omega)]
    rfl
theorem pc_txt {t : Nat} (ht : (tb_txt.getD t []).length < 100) : ∀ (r i F : Nat), i + r = (tb_txt.getD t []).length → pc_f w ((pr_x t).drop i) (fn_Printer_putText_2 (F + 1 + r) t (Int32.ofNat i)) := by
  have hl : (pr_x t).length = (tb_txt.getD t []).length := List.length_map _
  have e1 : mi_pr tb_P 1000 [.retAddr t] = some (.int (Int32.ofNat (tb_txt.getD t []).length)) := rfl
  intro r
  induction r with
  | zero =>
    intro i F hi n S h4 h5 hn
    have hi : i = (tb_txt.getD t []).length := hi
    have ed : (pr_x t).drop i = [] := List.drop_eq_nil_of_le (by omega)
    rw [ed]
    rw [Nat.add_zero, fn_Printer_putText_2, e1]
    show ∃ S', (if Int32.ofNat i < Int32.ofNat (tb_txt.getD t []).length then _ else some S) = some S' ∧ _
    rw [hi, if_neg Int32.lt_irrefl]
    exact pc_nil n S h4 h5 (by rw [ed] at hn; exact hn)
  | succ r ih =>
    intro i F hi
    have hil : i < (tb_txt.getD t []).length := by omega
    have e2 : mi_pr tb_P 1001 [.retAddr t, .int (Int32.ofNat i)] = some (.int ((pr_x t)[i]'(by rw [hl]; exact hil))) := by
      show (if 1001 = 1001 ∧ ¬(Int32.ofNat i < 0 ∨ (tb_txt.getD t []).length ≤ (Int32.ofNat i).toNatClampNeg) then some (Value.int (nI ((tb_txt.getD t []).getD (Int32.ofNat i).toNatClampNeg 0))) else none) = _
      rw [if_pos ⟨rfl, ms_in hil (by omega)⟩, im_t (show i < 2147483648 by omega), List.getD_eq_getElem?_getD, List.getElem?_eq_getElem hil]
      congr 2
      exact (List.getElem_map _).symm
    have ed : (pr_x t).drop i = [(pr_x t)[i]'(by rw [hl]; exact hil)] ++ (pr_x t).drop (i + 1) := List.drop_eq_getElem_cons (by rw [hl]; exact hil)
    rw [ed]
    have hs := pc_seq (w := w) (pc_put (x := (pr_x t)[i]'(by rw [hl]; exact hil))) (ih (i + 1) F (by omega))
    intro n S h4 h5 hn
    obtain ⟨S', f', o'⟩ := hs n S h4 h5 hn
    refine ⟨S', ?_, o'⟩
    show fn_Printer_putText_2 (F + 1 + r + 1) t (Int32.ofNat i) S = some S'
    rw [fn_Printer_putText_2, e1]
    show (if Int32.ofNat i < Int32.ofNat (tb_txt.getD t []).length then wd_p (mi_pr tb_P 1001 [.retAddr t, .int (Int32.ofNat i)]) _ else some S) = some S'
    rw [if_pos ((im_lt (by omega) (by omega)).mpr hil), e2, ← f']
    show wd_d (fn_Printer_put _ S) (fun S6 => fn_Printer_putText_2 (F + 1 + r) t (Int32.ofNat i + 1) S6) = wd_d (fn_Printer_put _ S) _
    rw [im_s]
theorem pc_text {t : Nat} (ht : (tb_txt.getD t []).length < 100) : pc_f w (pr_x t) (fn_Printer_putText t) := fun n S h4 h5 hn => by
  have := pc_txt (w := w) ht (tb_txt.getD t []).length 0 (999999 - (tb_txt.getD t []).length) (Nat.zero_add _) n S h4 h5 hn
  rw [show 999999 - (tb_txt.getD t []).length + 1 + (tb_txt.getD t []).length = wd_F by rw [show wd_F = 1000000 from rfl]; omega] at this
  exact this
/-- figures from 10^k down -/
theorem pc_24d (hm : m < 2147483648) : ∀ (k F : Nat), k < 10 → k + 2 ≤ F → (k = 0 ∨ 10 ^ k ≤ m) → pc_f w (pr_d m k) (fn_Printer_putNumber_24 F (Int32.ofNat m) (Int32.ofNat (10 ^ k))) := by
  intro k
  have e38 : ∀ (k F : Nat) (S : wd_S), k < 10 → fn_Printer_putNumber_38 (fn_Printer_putNumber_24 F) (Int32.ofNat m) (Int32.ofNat (10 ^ k)) S = wd_d (fn_Printer_put (48 + Int32.ofNat (m / 10 ^ k % 10)) S) (fn_Printer_putNumber_24 F (Int32.ofNat m) (Int32.ofNat (10 ^ k / 10))) := fun k F S hk => by
    have hp := pr_10 k hk
    have h0 : 0 < 10 ^ k := Nat.pow_pos (by decide)
    have hq : m / 10 ^ k < 2147483648 := Nat.lt_of_le_of_lt (Nat.div_le_self _ _) hm
    unfold fn_Printer_putNumber_38 fn_Printer_putNumber_51
    rw [if_neg (fun q => by have := (im_eq (m := 10 ^ k) (n := 0) hp (by omega)).mp q; omega), im_div hm hp, im_mod hq, show (10 : Int32) = Int32.ofNat 10 from rfl, im_div hp (by decide)]
  induction k with
  | zero =>
    intro F _ hF _
    obtain ⟨F, rfl⟩ : ∃ q, F = q + 1 + 1 := ⟨F - 2, by omega⟩
    intro n S h4 h5 hn
    obtain ⟨S', f', o'⟩ := pc_seq (w := w) (pc_put (x := 48 + Int32.ofNat (m / 10 ^ 0 % 10))) pc_nil n S h4 h5 hn
    have e0 : m / 10 ^ 0 % 10 = m % 10 := by rw [Nat.pow_zero, Nat.div_one]
    rw [e0] at f' o'
    refine ⟨S', ?_, o'⟩
    have ez : ∀ S, fn_Printer_putNumber_24 (F + 1) (Int32.ofNat m) (Int32.ofNat (10 ^ 0 / 10)) S = some S := fun S => by
      rw [fn_Printer_putNumber_24, if_neg (show ¬(0 : Int32) < Int32.ofNat (10 ^ 0 / 10) by decide)]
    rw [fn_Printer_putNumber_24, if_pos (show (0 : Int32) < Int32.ofNat (10 ^ 0) by decide), if_pos (show Int32.ofNat (10 ^ 0) = 1 by decide), ite_self, e38 0 (F + 1) S (by decide), e0, ← f']
    congr 1
  | succ k ih =>
    intro F hk hF hge
    obtain ⟨F, rfl⟩ : ∃ q, F = q + 1 := ⟨F - 1, by omega⟩
    have hge : 10 ^ (k + 1) ≤ m := by omega
    have hp := pr_10 (k + 1) hk
    have h10 : 10 ^ (k + 1) / 10 = 10 ^ k := by rw [Nat.pow_succ, Nat.mul_div_cancel _ (by decide)]
    have hle : 10 ^ k ≤ 10 ^ (k + 1) := Nat.pow_le_pow_right (by decide) (Nat.le_succ k)
    intro n S h4 h5 hn
    obtain ⟨S', f', o'⟩ := pc_seq (w := w) (pc_put (x := 48 + Int32.ofNat (m / 10 ^ (k + 1) % 10))) (ih F (by omega) (by omega) (Or.inr (by omega))) n S h4 h5 hn
    refine ⟨S', ?_, o'⟩
    rw [fn_Printer_putNumber_24, if_pos (show (0 : Int32) < Int32.ofNat (10 ^ (k + 1)) from (im_lt (m := 0) (by omega) hp).mpr (Nat.pow_pos (by decide))), if_neg (fun q => by have := (im_lt hm hp).mp q; omega), e38 (k + 1) F S hk, h10]
    exact f'
/-- skipping the units that are too great -/
theorem pc_24 (hm : m < 2147483648) : ∀ (k F : Nat), k < 10 → k + 2 ≤ F → pc_f w (pr_d m (pr_k m k)) (fn_Printer_putNumber_24 F (Int32.ofNat m) (Int32.ofNat (10 ^ k))) := by
  intro k
  induction k with
  | zero => intro F hk hF; exact pc_24d hm 0 F hk hF (Or.inl rfl)
  | succ k ih =>
    intro F hk hF
    unfold pr_k
    split
    · next h => exact pc_24d hm (k + 1) F hk hF (Or.inr h)
    · next h =>
      obtain ⟨F, rfl⟩ : ∃ q, F = q + 1 := ⟨F - 1, by omega⟩
      have hp := pr_10 (k + 1) hk
      have h10 : 10 ^ (k + 1) / 10 = 10 ^ k := by rw [Nat.pow_succ, Nat.mul_div_cancel _ (by decide)]
      have h2 : 10 ≤ 10 ^ (k + 1) := by
        rw [Nat.pow_succ]
        have : 1 ≤ 10 ^ k := Nat.pow_pos (by decide)
        omega
      intro n S h4 h5 hn
      obtain ⟨S', f', o'⟩ := ih F (by omega) (by omega) n S h4 h5 hn
      refine ⟨S', ?_, o'⟩
      unfold fn_Printer_putNumber_24
      rw [if_pos (show (0 : Int32) < Int32.ofNat (10 ^ (k + 1)) from (im_lt (m := 0) (by omega) hp).mpr (Nat.pow_pos (by decide))), if_pos ((im_lt hm hp).mpr (by omega)), if_neg (show ¬Int32.ofNat (10 ^ (k + 1)) = 1 from fun q => by have := (im_eq (m := 10 ^ (k + 1)) (n := 1) hp (by omega)).mp q; omega)]
      unfold fn_Printer_putNumber_51
      rw [show (10 : Int32) = Int32.ofNat 10 from rfl, im_div hp (by decide), h10]
      exact f'
theorem pc_num (hm : m < 2147483648) : pc_f w (pr_n m) (fn_Printer_putNumber (Int32.ofNat m)) := fun n S h4 h5 hn => by
  obtain ⟨S', f', o'⟩ := pc_24 (w := w) hm 9 wd_F (by decide) (by rw [show wd_F = 1000000 from rfl]; omega) n S h4 h5 hn
  refine ⟨S', ?_, o'⟩
  unfold fn_Printer_putNumber fn_Printer_putNumber_10 fn_Printer_putNumber_21
  rw [if_neg (im_neg hm), if_neg (im_neg hm)]
  exact f'
theorem pc_numx {v : Int32} (h1 : ¬v = -2147483648) : pc_f w (pr_i v) (fn_Printer_putNumber v) := by
  unfold pr_i
  rw [if_neg h1]
  by_cases h2 : v < 0
  · rw [if_pos h2]
    have h3 := im_neg_n h1 h2
    have e := im_of h3
    have hs := pc_seq (w := w) (pc_put (x := 45)) (pc_24 (w := w) (im_tl (-v)) 9 wd_F (by decide) (by rw [show wd_F = 1000000 from rfl]; omega))
    intro n S h4 h5 hn
    obtain ⟨S', f', o'⟩ := hs n S h4 h5 hn
    refine ⟨S', ?_, o'⟩
    unfold fn_Printer_putNumber fn_Printer_putNumber_10 fn_Printer_putNumber_21
    rw [if_pos h2, if_pos h2, ← f', e]
    rfl
  · rw [if_neg h2]
    have := pc_num (w := w) (im_tl v)
    rw [im_of h2] at this
    exact this
theorem pc_show {v : Int32} : pc_f w (pr_i v) (fn_Printer_showNumber v) := by
  intro n S h4 h5 hn
  unfold fn_Printer_showNumber fn_Printer_showNumber_20
  rw [wd_d_id, wd_d_id]
  by_cases h1 : v = -2147483648
  · rw [if_pos h1]
    have e : pr_i v = pr_x 20 := if_pos h1
    rw [e] at hn ⊢
    exact pc_text (by decide) n S h4 h5 hn
  · rw [if_neg h1]
    exact pc_numx h1 n S h4 h5 hn
end Pc
end
/-! part b27 -/
section
/-! The class's printer: trees. -/
def pc_W (a b : Nat) : Prop := a = 127 ∨ (a = 128 ∧ (b = 5 ∨ b = 6 ∨ b = 7)) ∨ a = 130
def pc_V (n m a b : Nat) : Prop := (a = 127 ∧ n ≤ b ∧ b < m) ∨ (a = 128 ∧ (b = 5 ∨ b = 7)) ∨ a = 130
def pc_X (v : Nat) (w : Bool) (S0 : wd_S) : Prop := (v = 54 ∨ v = 79) ∧ S0.2.2.1 128 2 = v ∧ S0.2.2.1 128 3 = v + 2 ∧ S0.1 128 4 = (if w = true then 1 else 0)
def pc_h (S0 : wd_S) (pn n : Nat) (s : pr_S) (S : wd_S) : Prop := of_f pc_W S0 S ∧ S.1 128 5 = Int32.ofNat n ∧ S.1 128 6 = Int32.ofNat pn ∧ S.1 128 7 = Int32.ofNat s.1 ∧ s.1 ≤ n ∧ pn ≤ 4 ∧ ∀ i j, s.2 i = some j → i < 16 ∧ S.1 130 i = Int32.ofNat j ∧ j ≤ n
def pc_R (w : Bool) (S0 : wd_S) (pn n : Nat) (l : List Int32) (s' : pr_S) (S S' : wd_S) : Prop := pc_h S0 pn (n + l.length) s' S' ∧ of_f (pc_V n (n + l.length)) S S' ∧ (w = true → ∀ j, (hj : j < l.length) → S'.1 127 (n + j) = l[j])
def pc_C (w : Bool) (S0 : wd_S) (pn : Nat) (x : pr_S → pr_O) (f : wd_S → Option wd_S) : Prop := ∀ (n : Nat) (s : pr_S) (S : wd_S) (l : List Int32) (s' : pr_S), x s = some (l, s') → pc_h S0 pn n s S → n + l.length ≤ 40000 → ∃ S', f S = some S' ∧ pc_R w S0 pn n l s' S S'
section Pc2
variable {w : Bool} {v n m k pn y z d r j : Nat} {l l1 l2 : List Int32} {S0 S S' S1 S2 : wd_S} {f g : wd_S → Option wd_S} {x x1 y1 : pr_S → pr_O} {t : tr_T} {s s' s1 : pr_S}
theorem pr_b_ok {q : pr_O} {h : pr_S → pr_O} (e : pr_b q h = some (l, s')) : ∃ l1 s1 l2, q = some (l1, s1) ∧ h s1 = some (l2, s') ∧ l = l1 ++ l2 := by
  cases q with
  | none => cases e
  | some q =>
    have e : (match h q.2 with | none => none | some w => some (q.1 ++ w.1, w.2)) = some (l, s') := e
    cases hq : h q.2 with
    | none => rw [hq] at e; cases e
    | some w => rw [hq] at e; cases e; exact ⟨q.1, q.2, w.1, rfl, hq, rfl⟩
theorem pc_R_cat (h1 : pc_R w S0 pn n l1 s1 S S1) (h2 : pc_R w S0 pn (n + l1.length) l2 s' S1 S2) : pc_R w S0 pn n (l1 ++ l2) s' S S2 := by
  obtain ⟨a1, a2, a3⟩ := h1
  obtain ⟨b1, b2, b3⟩ := h2
  have el : (l1 ++ l2).length = l1.length + l2.length := List.length_append
  refine ⟨by rw [el, ← Nat.add_assoc]; exact b1, of_trans (of_mono (fun a b q => by unfold pc_V at *; omega) a2) (of_mono (fun a b q => by unfold pc_V at *; omega) b2), fun hw j hj => ?_⟩
  rw [el] at hj
  by_cases e : j < l1.length
  · rw [List.getElem_append_left e, b2.1 127 (n + j) (by unfold pc_V; omega)]
    exact a3 hw j e
  · rw [List.getElem_append_right (by omega)]
    have := b3 hw (j - l1.length) (by omega)
    rw [show n + l1.length + (j - l1.length) = n + j by omega] at this
    exact this
theorem pc_Cseq (hx : pc_C w S0 pn x f) (hy : pc_C w S0 pn y1 g) : pc_C w S0 pn (fun s => pr_b (x s) y1) (fun S => wd_d (f S) g) := fun n s S l s' he hp hn => by
  obtain ⟨l1, s1, l2, q1, q2, rfl⟩ := pr_b_ok he
  rw [List.length_append] at hn
  obtain ⟨S1, f1, r1⟩ := hx n s S l1 s1 q1 hp (by omega)
  obtain ⟨S2, f2, r2⟩ := hy (n + l1.length) s1 S1 l2 s' q2 r1.1 (by omega)
  exact ⟨S2, by show wd_d (f S) g = _; rw [f1, wd_d_s, f2], pc_R_cat r1 r2⟩
theorem pc_h4 (hX : pc_X v w S0) (hp : pc_h S0 pn n s S) : S.1 128 4 = (if w = true then 1 else 0) := by rw [hp.1.1 128 4 (by unfold pc_W; omega)]; exact hX.2.2.2
theorem pc_h3 (hX : pc_X v w S0) (hp : pc_h S0 pn n s S) : S.2.2.1 128 3 = v + 2 := by rw [hp.1.2.2]; exact hX.2.2.1
theorem pc_h2 (hX : pc_X v w S0) (hp : pc_h S0 pn n s S) : S.2.2.1 128 2 = v := by rw [hp.1.2.2]; exact hX.2.1
theorem pc_Cf (hX : pc_X v w S0) (hf : pc_f w l f) : pc_C w S0 pn (fun s => some (l, s)) f := fun n s S l' s' he hp hn => by
  cases he
  obtain ⟨S1, f1, o1⟩ := hf n S (pc_h4 hX hp) hp.2.1 hn
  obtain ⟨a1, a2, a3, a4, a5, a6, a7⟩ := hp
  refine ⟨S1, f1, ⟨of_trans a1 (of_mono (fun a b q => by unfold pc_W; omega) o1.1), o1.2.1, by rw [o1.1.1 128 6 (by omega)]; exact a3, by rw [o1.1.1 128 7 (by omega)]; exact a4, by omega, a6, fun i j hi => ?_⟩, of_mono (fun a b q => by unfold pc_V; omega) o1.1, o1.2.2⟩
  obtain ⟨b1, b2, b3⟩ := a7 i j hi
  exact ⟨b1, by rw [o1.1.1 130 i (by omega)]; exact b2, by omega⟩
theorem pc_vv (hX : pc_X v w S0) : tp_t v = (0, 9) ∧ tp_t (v + 1) = (0, 0) ∧ tp_t (v + 2) = (0, 8) ∧ nd_L (v + 2) 1000 ∧ (tp_t (v + 16)).2 = 78 ∧ (tp_t (v + 18)).2 = 78 := by
  rcases hX.1 with h | h <;> subst h <;> exact ⟨rfl, rfl, rfl, ⟨rfl, rfl, rfl, rfl, rfl, rfl⟩, rfl, rfl⟩
theorem pc_row (hX : pc_X v w S0) (hp : pc_h S0 pn n s S) : ∀ a, a < 127 → S.1 a = S0.1 a := fun a ha => funext fun k => hp.1.1 a k (by unfold pc_W; omega)
theorem pc_nd (hX : pc_X v w S0) (hp : pc_h S0 pn n s S) (ht : nd_t (v + 2) S0 0 1000 d y t) : fn_Trees_kind (v + 2) (Int32.ofNat y) S = some (tr_k t, S) ∧ fn_Trees_value (v + 2) (Int32.ofNat y) S = some (tr_v t, S) ∧ fn_Trees_parts (v + 2) (Int32.ofNat y) S = some (Int32.ofNat (tr_a t), S) ∧ ∀ j, j < 4 → j < tr_a t → ∃ z e, fn_Trees_part (v + 2) (Int32.ofNat y) (Int32.ofNat j) S = some (Int32.ofNat z, S) ∧ nd_t (v + 2) S0 0 1000 e z (tr_sub t j) := by
  obtain ⟨-, -, t8, ⟨g2, g4, g6, g8, g10, g12⟩, -⟩ := pc_vv hX
  have hv := hX.1
  have hr := pc_row hX hp
  cases d with
  | zero => exact absurd ht id
  | succ d =>
    obtain ⟨h1, h2, h3, h4, h5, h6⟩ := ht
    refine ⟨?_, ?_, ?_, fun j hj hja => ?_⟩
    · rw [fo_tkind, ro_an (r := v + 2 + 1) g2 h2, hr (v + 2 + 1 + 1) (by omega)]; exact congrArg some (Prod.ext h3 rfl)
    · rw [fo_tvalue, ro_an (r := v + 2 + 3) g4 h2, hr (v + 2 + 3 + 1) (by omega)]; exact congrArg some (Prod.ext h4 rfl)
    · rw [fo_tparts, ro_an (r := v + 2 + 5) g6 h2, hr (v + 2 + 5 + 1) (by omega)]; exact congrArg some (Prod.ext h5 rfl)
    · obtain ⟨z, e, hz⟩ := h6 j hj hja
      refine ⟨z, d, ?_, hz⟩
      rw [fo_tpart, if_neg (im_neg (by omega)), if_pos (show Int32.ofNat j < 4 from (im_lt (m := j) (n := 4) (by omega) (by omega)).mpr hj), show Int32.ofNat y * 4 + Int32.ofNat j = Int32.ofNat (4 * y + j) by rw [show (4 : Int32) = Int32.ofNat 4 from rfl, im_ma, Nat.mul_comm], ro_an (r := v + 2 + 7) g8 (show 4 * y + j < 4 * 1000 by omega), hr (v + 2 + 7 + 1) (by omega)]
      exact congrArg some (Prod.ext e rfl)
def pc_S (v : Nat) (w : Bool) (S0 : wd_S) (pn r : Nat) : Prop := ∀ (y : Nat) (t : tr_T) (d : Nat), nd_t (v + 2) S0 0 1000 d y t → pc_C w S0 pn (fun s => pr pn r s t) (rc_Printer_show (2 * r + 8) 130 (Int32.ofNat y) (Int32.ofNat (96 - r)))
/-- a part is shown, then the rest -/
theorem pc_part (hX : pc_X v w S0) (hS : pc_S v w S0 pn r) (hr : r + 1 ≤ 96) (ht : nd_t (v + 2) S0 0 1000 d y t) (hj : j < 4) (hja : j < tr_a t) {J : Int32} (hJ : J = Int32.ofNat j) (hg : pc_C w S0 pn y1 g) : pc_C w S0 pn (fun s => pr_b (pr pn r s (tr_sub t j)) y1) (fun S => if tp_t (S.2.2.1 128 3) = (0, 8) then (wd_c (fn_Trees_part (S.2.2.1 128 3) (Int32.ofNat y) J S) fun x6 S5 => wd_d (rc_Printer_show (2 * r + 8) 130 x6 (Int32.ofNat (96 - (r + 1)) + 1) S5) g) else none) := fun n s S l s' he hp hn => by
  obtain ⟨-, -, -, h4⟩ := pc_nd hX hp ht
  obtain ⟨z, e, f1, f2⟩ := h4 j hj hja
  obtain ⟨-, -, t8, -⟩ := pc_vv hX
  subst hJ
  show ∃ S', (if tp_t (S.2.2.1 128 3) = (0, 8) then _ else none) = some S' ∧ _
  rw [pc_h3 hX hp, if_pos t8, f1, wd_c_s, cm_96 hr]
  exact pc_Cseq (hS z _ e f2) hg n s S l s' he hp hn
theorem pc_sign (hX : pc_X v w S0) (hS : pc_S v w S0 pn r) (hr : r + 1 ≤ 96) (ht : nd_t (v + 2) S0 0 1000 d y t) (hk : tr_k t = 6 ∨ tr_k t = 7 ∨ tr_k t = 8 ∨ tr_k t = 9 ∨ tr_k t = 10) (ha : tr_a t = 2) : pc_C w S0 pn (fun s => pr_b (some ([40], s)) (fun s => pr_b (pr pn r s (tr_sub t 0)) fun s => pr_b (some (pr_x (pr_sx (tr_k t)), s)) fun s => pr_b (pr pn r s (tr_sub t 1)) fun s => some ([41], s))) (fn_Printer_showSign (rc_Printer_show (2 * r + 8)) (Int32.ofNat y) (Int32.ofNat (96 - (r + 1)))) := by
  obtain ⟨-, -, t8, -⟩ := pc_vv hX
  unfold fn_Printer_showSign
  refine pc_Cseq (x := fun s => some ([40], s)) (pc_Cf hX pc_put) ?_
  refine pc_part (J := 0) hX hS hr ht (by decide) (by omega) rfl ?_
  have htx : (tb_txt.getD (pr_sx (tr_k t)) []).length < 100 := by rcases hk with z | z | z | z | z <;> rw [z] <;> decide
  have hend : pc_C w S0 pn (fun s => some ([41], s)) (fun S => wd_d (fn_Printer_put 41 S) fun S => some S) := fun n s S l s' he hp hn => by
    show ∃ S', wd_d (fn_Printer_put 41 S) (fun S => some S) = some S' ∧ _
    rw [wd_d_id]
    exact pc_Cf hX pc_put n s S l s' he hp hn
  have h2 := pc_part (J := 1) (pn := pn) hX hS hr ht (j := 1) (by decide) (by omega) rfl hend
  have h3 := pc_Cseq (x := fun s => some (pr_x (pr_sx (tr_k t)), s)) (pc_Cf hX (pc_text htx)) h2
  intro n s S l s' he hp hn
  show ∃ S', (if tp_t (S.2.2.1 128 3) = (0, 8) then _ else none) = some S' ∧ _
  have es : fn_Printer_signText (tr_k t) S = some (pr_sx (tr_k t), S) := by
    unfold fn_Printer_signText pr_sx
    rcases hk with z | z | z | z | z <;> rw [z] <;> rfl
  rw [pc_h3 hX hp, if_pos t8, (pc_nd hX hp ht).1, wd_c_s, es, wd_c_s]
  exact h3 n s S l s' he hp hn
theorem pc_if (hX : pc_X v w S0) (hS : pc_S v w S0 pn r) (hr : r + 1 ≤ 96) (ht : nd_t (v + 2) S0 0 1000 d y t) (ha : tr_a t = 3) : pc_C w S0 pn (fun s => pr_b (some (pr_x 24, s)) (fun s => pr_b (pr pn r s (tr_sub t 0)) fun s => pr_b (some (pr_x 25, s)) fun s => pr_b (pr pn r s (tr_sub t 1)) fun s => pr_b (some (pr_x 26, s)) fun s => pr_b (pr pn r s (tr_sub t 2)) fun s => some ([41], s))) (fn_Printer_showIf (rc_Printer_show (2 * r + 8)) (Int32.ofNat y) (Int32.ofNat (96 - (r + 1)))) := by
  unfold fn_Printer_showIf
  refine pc_Cseq (x := fun s => some (pr_x 24, s)) (pc_Cf hX (pc_text (by decide))) ?_
  refine pc_part (J := 0) hX hS hr ht (by decide) (by omega) rfl ?_
  refine pc_Cseq (x := fun s => some (pr_x 25, s)) (pc_Cf hX (pc_text (by decide))) ?_
  refine pc_part (J := 1) hX hS hr ht (by decide) (by omega) rfl ?_
  refine pc_Cseq (x := fun s => some (pr_x 26, s)) (pc_Cf hX (pc_text (by decide))) ?_
  refine pc_part (J := 2) hX hS hr ht (by decide) (by omega) rfl ?_
  intro n s S l s' he hp hn
  show ∃ S', wd_d (fn_Printer_put 41 S) (fun S => some S) = some S' ∧ _
  rw [wd_d_id]
  exact pc_Cf hX pc_put n s S l s' he hp hn
theorem pc_129 : (tp_t (129 + 1)).2 = 16 := rfl
theorem pc_let (hX : pc_X v w S0) (hS : pc_S v w S0 pn r) (hr : r + 1 ≤ 96) (ht : nd_t (v + 2) S0 0 1000 d y t) (ha : tr_a t = 2) (hv : tr_v t = Int32.ofNat (tr_n t)) (hi : tr_n t < 16) : pc_C w S0 pn (fun s => pr_b (some (pr_x 21 ++ pr_n s.1 ++ pr_x 22, s.1 + 1, pr_u s.2 (tr_n t) s.1)) (fun s => pr_b (pr pn r s (tr_sub t 0)) fun s => pr_b (some (pr_x 23, s)) fun s => pr_b (pr pn r s (tr_sub t 1)) fun s => some ([41], s))) (fn_Printer_showLet (rc_Printer_show (2 * r + 8)) (Int32.ofNat y) (Int32.ofNat (96 - (r + 1)))) := by
  obtain ⟨-, -, t8, -⟩ := pc_vv hX
  have hend : pc_C w S0 pn (fun s => some ([41], s)) (fun S => wd_d (fn_Printer_put 41 S) fun S => some S) := fun n s S l s' he hp hn => by
    show ∃ S', wd_d (fn_Printer_put 41 S) (fun S => some S) = some S' ∧ _
    rw [wd_d_id]
    exact pc_Cf hX pc_put n s S l s' he hp hn
  have h1 := pc_part (J := 1) (pn := pn) hX hS hr ht (j := 1) (by decide) (by omega) rfl hend
  have h2 := pc_Cseq (x := fun s => some (pr_x 23, s)) (pc_Cf hX (pc_text (by decide))) h1
  have h3 := pc_part (J := 0) hX hS hr ht (j := 0) (by decide) (by omega) rfl h2
  intro n s S l s' he hp hn
  obtain ⟨l1, s1, l2, q1, q2, rfl⟩ := pr_b_ok he
  cases q1
  rw [List.length_append] at hn
  have hs0 := hp.2.2.2.2.1
  unfold fn_Printer_showLet
  rw [pc_h3 hX hp, if_pos t8, (pc_nd hX hp ht).2.1, wd_c_s]
  have hA := pc_seq (w := w) (pc_seq (w := w) (pc_text (t := 21) (by decide)) (pc_num (m := s.1) (by omega))) (pc_text (t := 22) (by decide))
  obtain ⟨Sa, fa, ra⟩ := pc_Cf (pn := pn) hX hA n s S _ s rfl hp (by omega)
  obtain ⟨a1, a2, a3, a4, a5, a6, a7⟩ := ra.1
  generalize hL : pr_x 21 ++ pr_n s.1 ++ pr_x 22 = LL at *
  have hLL : 1 ≤ LL.length := by
    rw [← hL, List.length_append, List.length_append]
    have : (pr_x 21).length = 6 := rfl
    omega
  have fcode : ∀ K : wd_S → Option wd_S, (wd_d (fn_Printer_putText 21 S) fun S5 => wd_d (fn_Printer_putNumber (S5.1 128 7) S5) fun S8 => wd_d (fn_Printer_putText 22 S8) K) = K Sa := fun K => by
    obtain ⟨Sx, fx, ox⟩ := pc_text (w := w) (t := 21) (by decide) n S (pc_h4 hX hp) hp.2.1 (by rw [← hL, List.length_append, List.length_append] at hn; omega)
    have fa : wd_d (wd_d (fn_Printer_putText 21 S) (fn_Printer_putNumber (Int32.ofNat s.1))) (fn_Printer_putText 22) = some Sa := fa
    rw [fx, wd_d_s] at fa ⊢
    rw [show Sx.1 128 7 = Int32.ofNat s.1 by rw [ox.1.1 128 7 (by omega)]; exact hp.2.2.2.1]
    cases hy : fn_Printer_putNumber (Int32.ofNat s.1) Sx with
    | none => rw [hy] at fa; cases fa
    | some Sy =>
      rw [hy, wd_d_s] at fa
      rw [wd_d_s, fa, wd_d_s]
  rw [fcode]
  rw [hv, ro_put_ok, wd_d_s, ro_pn pc_129 hi, a4]
  simp only [wd_b]
  rw [fr_ne (show ¬(128 = 129 + 1 ∧ _) by omega), a4, im_s]
  generalize hSb : wd_i (wd_i Sa (129 + 1) (tr_n t) (Int32.ofNat s.1)) 128 7 (Int32.ofNat (s.1 + 1)) = Sb
  have ob : of_f (fun a b => (a = 130 ∧ b = tr_n t) ∨ (a = 128 ∧ b = 7)) Sa Sb := by
    rw [← hSb]
    exact of_i (by omega) (of_i (by omega) of_refl)
  have hpb : pc_h S0 pn (n + LL.length) (s.1 + 1, pr_u s.2 (tr_n t) s.1) Sb := by
    refine ⟨of_trans a1 (of_mono (fun a b q => by unfold pc_W; omega) ob), by rw [ob.1 128 5 (by omega)]; exact a2, by rw [ob.1 128 6 (by omega)]; exact a3, by rw [← hSb, fr_eq], by show s.1 + 1 ≤ n + LL.length; omega, a6, fun i j hij => ?_⟩
    have hij : pr_u s.2 (tr_n t) s.1 i = some j := hij
    unfold pr_u at hij
    split at hij
    · next ei =>
      cases hij
      subst ei
      exact ⟨hi, by rw [← hSb, fr_ne (by omega), fr_e (by omega)], by omega⟩
    · next ei =>
      obtain ⟨b1, b2, b3⟩ := a7 i j hij
      exact ⟨b1, by rw [ob.1 130 i (by omega)]; exact b2, b3⟩
  obtain ⟨Sc, fc, rc⟩ := h3 (n + LL.length) (s.1 + 1, pr_u s.2 (tr_n t) s.1) Sb l2 s' q2 hpb (by omega)
  refine ⟨Sc, fc, ?_⟩
  have rab : pc_R w S0 pn n LL (s.1 + 1, pr_u s.2 (tr_n t) s.1) S Sb := ⟨hpb, of_trans ra.2.1 (of_mono (fun a b q => by unfold pc_V; omega) ob), fun hw j hj => by rw [ob.1 127 _ (by omega)]; exact ra.2.2 hw j hj⟩
  exact pc_R_cat rab rc
theorem pc_name (hX : pc_X v w S0) (hv : tr_v t = Int32.ofNat (tr_n t)) (hi : tr_n t < 16) : pc_C w S0 pn (fun s => if tr_n t < pn then some ([97 + tr_v t], s) else match s.2 (tr_n t) with
    | none => none
    | some j => some (120 :: pr_n j, s)) (fn_Printer_showName (tr_v t)) := fun n s S l s' he hp hn => by
  have hp6 := hp.2.2.2.2.2.1
  dsimp only at he
  unfold fn_Printer_showName fn_Printer_showName_37
  rw [hp.2.2.1, hv]
  by_cases e : tr_n t < pn
  · rw [if_pos e] at he
    cases he
    rw [if_pos ((im_lt (by omega) (by omega)).mpr e), wd_d_id, hv]
    rw [hv] at hn
    exact pc_Cf hX pc_put n s S _ s rfl hp hn
  · rw [if_neg e] at he
    rw [if_neg (fun q => e ((im_lt (by omega) (by omega)).mp q))]
    cases hj : s.2 (tr_n t) with
    | none => rw [hj] at he; cases he
    | some j =>
      rw [hj] at he
      cases he
      obtain ⟨b1, b2, b3⟩ := hp.2.2.2.2.2.2 (tr_n t) j hj
      have hn' : n + (pr_n j).length + 1 ≤ 40000 := hn
      have hA := pc_seq (w := w) (pc_put (x := 120)) (pc_num (w := w) (m := j) (by omega))
      obtain ⟨Sa, fa, ra⟩ := pc_Cf (pn := pn) hX hA n s S _ s rfl hp hn
      refine ⟨Sa, ?_, ra⟩
      obtain ⟨Sx, fx, ox⟩ := pc_put (w := w) (x := 120) n S (pc_h4 hX hp) hp.2.1 (by show n + 1 ≤ 40000; omega)
      have fa : wd_d (fn_Printer_put 120 S) (fn_Printer_putNumber (Int32.ofNat j)) = some Sa := fa
      rw [fx, wd_d_s] at fa ⊢
      rw [ro_at_ok, wd_c_s, ro_an pc_129 hi, ox.1.1 (129 + 1) _ (by omega), show S.1 (129 + 1) (tr_n t) = Int32.ofNat j from b2, fa, wd_d_s]
end Pc2
end
/-! part b28 -/
section
/-! The class's printer: calls, versions; print(). -/
section Pc3
variable {w : Bool} {v n m k pn y z d r j : Nat} {l l1 l2 : List Int32} {S0 S S' S1 S2 : wd_S} {f g : wd_S → Option wd_S} {t : tr_T} {s s' s1 : pr_S}
theorem pc_as (hX : pc_X v w S0) (hS : pc_S v w S0 pn r) (hr : r + 1 ≤ 96) (ht : nd_t (v + 2) S0 0 1000 d y t) (ha : tr_a t ≤ 4) : ∀ (q j F : Nat), q + j = tr_a t → pc_C w S0 pn (fun s => pr_as (pr pn r) t q j s) (fn_Printer_showCall_26 (rc_Printer_show (2 * r + 8)) (F + 1 + q) (Int32.ofNat y) (Int32.ofNat (96 - (r + 1))) (Int32.ofNat j)) := by
  obtain ⟨-, -, t8, -⟩ := pc_vv hX
  intro q
  induction q with
  | zero =>
    intro j F hj n s S l s' he hp hn
    have hj : j = tr_a t := by omega
    have e80 : fn_Printer_showCall_26 (rc_Printer_show (2 * r + 8)) (F + 1 + 0) (Int32.ofNat y) (Int32.ofNat (96 - (r + 1))) (Int32.ofNat j) S = fn_Printer_put 41 S := by
      rw [Nat.add_zero, fn_Printer_showCall_26]
      unfold fn_Printer_showCall_80
      rw [wd_d_id]
      split
      · rw [pc_h3 hX hp, if_pos t8, (pc_nd hX hp ht).2.2.1, wd_c_s, hj, if_neg Int32.lt_irrefl]
        exact wd_d_id _
      · rfl
    rw [e80]
    exact pc_Cf hX pc_put n s S l s' he hp hn
  | succ q ih =>
    intro j F hj
    have hrest := pc_part (J := Int32.ofNat j) (pn := pn) hX hS hr ht (j := j) (by omega) (by omega) rfl (ih (j + 1) F (by omega))
    have h1 : pc_C w S0 pn (fun s => pr_b (some (if j = 0 then [] else pr_x 17, s)) fun s => pr_b (pr pn r s (tr_sub t j)) fun s => pr_as (pr pn r) t q (j + 1) s) (fun S => wd_d (fn_Printer_putText (if j = 0 then 16 else 17) S) (fun S24 => if tp_t (S24.2.2.1 128 3) = (0, 8) then (wd_c (fn_Trees_part (S24.2.2.1 128 3) (Int32.ofNat y) (Int32.ofNat j) S24) fun x6 S5 => wd_d (rc_Printer_show (2 * r + 8) 130 x6 (Int32.ofNat (96 - (r + 1)) + 1) S5) (fn_Printer_showCall_26 (rc_Printer_show (2 * r + 8)) (F + 1 + q) (Int32.ofNat y) (Int32.ofNat (96 - (r + 1))) (Int32.ofNat (j + 1)))) else none)) := by
      refine pc_Cseq (x := fun s => some (if j = 0 then [] else pr_x 17, s)) ?_ hrest
      by_cases e : j = 0
      · rw [if_pos e]
        simp only [if_pos e]
        exact pc_Cf hX (pc_text (t := 16) (by decide))
      · rw [if_neg e]
        simp only [if_neg e]
        exact pc_Cf hX (pc_text (t := 17) (by decide))
    intro n s S l s' he hp hn
    have he : pr_b (some (if j = 0 then [] else pr_x 17, s)) (fun s => pr_b (pr pn r s (tr_sub t j)) fun s => pr_as (pr pn r) t q (j + 1) s) = some (l, s') := he
    obtain ⟨S', f', r'⟩ := h1 n s S l s' he hp hn
    refine ⟨S', ?_, r'⟩
    show fn_Printer_showCall_26 (rc_Printer_show (2 * r + 8)) (F + 1 + q + 1) (Int32.ofNat y) (Int32.ofNat (96 - (r + 1))) (Int32.ofNat j) S = some S'
    rw [fn_Printer_showCall_26, if_pos (show Int32.ofNat j < 4 from (im_lt (m := j) (n := 4) (by omega) (by omega)).mpr (by omega)), pc_h3 hX hp, if_pos t8, (pc_nd hX hp ht).2.2.1, wd_c_s, if_pos ((im_lt (by omega) (by omega)).mpr (by omega))]
    unfold fn_Printer_showCall_55
    rw [im_s j]
    by_cases e : j = 0
    · rw [if_pos (show Int32.ofNat j = 0 by rw [e]; rfl)]
      rw [if_pos e] at f'
      exact f'
    · rw [if_neg (show ¬Int32.ofNat j = 0 from fun q => e ((im_eq (m := j) (n := 0) (by omega) (by omega)).mp q))]
      rw [if_neg e] at f'
      exact f'
theorem pc_call (hX : pc_X v w S0) (hS : pc_S v w S0 pn r) (hr : r + 1 ≤ 96) (ht : nd_t (v + 2) S0 0 1000 d y t) (ha : tr_a t ≤ 4) (hv : tr_v t = Int32.ofNat (tr_n t)) (hi : tr_n t < 1000) : pc_C w S0 pn (fun s => pr_b (some (118 :: pr_n (tr_n t) ++ [40], s)) (fun s => pr_as (pr pn r) t (tr_a t) 0 s)) (fn_Printer_showCall (rc_Printer_show (2 * r + 8)) (Int32.ofNat y) (Int32.ofNat (96 - (r + 1)))) := fun n s S l s' he hp hn => by
  obtain ⟨-, -, t8, -⟩ := pc_vv hX
  have h26 := pc_as (pn := pn) hX hS hr ht ha (tr_a t) 0 (999999 - tr_a t) rfl
  rw [show 999999 - tr_a t + 1 + tr_a t = wd_F by rw [show wd_F = 1000000 from rfl]; omega] at h26
  have hA := pc_seq (w := w) (pc_seq (w := w) (pc_put (x := 118)) (pc_num (w := w) (m := tr_n t) (by omega))) (pc_put (w := w) (x := 40))
  obtain ⟨S', f', r'⟩ := pc_Cseq (x := fun s => some (118 :: pr_n (tr_n t) ++ [40], s)) (pc_Cf (pn := pn) hX hA) h26 n s S l s' he hp hn
  refine ⟨S', ?_, r'⟩
  have f' : wd_d (wd_d (wd_d (fn_Printer_put 118 S) (fn_Printer_putNumber (Int32.ofNat (tr_n t)))) (fn_Printer_put 40)) (fn_Printer_showCall_26 (rc_Printer_show (2 * r + 8)) wd_F (Int32.ofNat y) (Int32.ofNat (96 - (r + 1))) 0) = some S' := f'
  obtain ⟨l1, s1, l2, q1, q2, ql⟩ := pr_b_ok he
  cases q1
  subst ql
  rw [List.length_append, List.length_append] at hn
  have hn : n + ((pr_n (tr_n t)).length + 1 + 1 + l2.length) ≤ 40000 := hn
  obtain ⟨Sx, fx, ox⟩ := pc_put (w := w) (x := 118) n S (pc_h4 hX hp) hp.2.1 (by show n + 1 ≤ 40000; omega)
  obtain ⟨Sx', fx', rx⟩ := pc_Cf (pn := pn) hX (pc_put (w := w) (x := 118)) n s S _ s rfl hp (by show n + 1 ≤ 40000; omega)
  have exx : Sx' = Sx := by rw [fx] at fx'; exact (Option.some.inj fx').symm
  subst exx
  unfold fn_Printer_showCall
  rw [fx, wd_d_s] at f' ⊢
  rw [pc_h3 hX rx.1, if_pos t8, (pc_nd hX rx.1 ht).2.1, wd_c_s, hv, ← f']
  cases fn_Printer_putNumber (Int32.ofNat (tr_n t)) Sx' with
  | none => rfl
  | some Sy => rfl
theorem rp_130 {n : Nat} {a e : Int32} : rc_Printer_show (n + 1) 130 a e S = fn_Printer_show (rc_Printer_show n) a e S := by rw [rc_Printer_show, if_pos rfl]
theorem rp_133 {n : Nat} {a e : Int32} : rc_Printer_show (n + 1) 133 a e S = fn_Printer_showLet (rc_Printer_show n) a e S := by rw [rc_Printer_show, if_neg (by decide), if_pos rfl]
theorem rp_134 {n : Nat} {a e : Int32} : rc_Printer_show (n + 1) 134 a e S = fn_Printer_showIf (rc_Printer_show n) a e S := by rw [rc_Printer_show, if_neg (by decide), if_neg (by decide), if_pos rfl]
theorem rp_135 {n : Nat} {a e : Int32} : rc_Printer_show (n + 1) 135 a e S = fn_Printer_showCall (rc_Printer_show n) a e S := by rw [rc_Printer_show, if_neg (by decide), if_neg (by decide), if_neg (by decide), if_pos rfl]
theorem rp_136 {n : Nat} {a e : Int32} : rc_Printer_show (n + 1) 136 a e S = fn_Printer_showSign (rc_Printer_show n) a e S := by rw [rc_Printer_show, if_neg (by decide), if_neg (by decide), if_neg (by decide), if_neg (by decide), if_pos rfl]
theorem pc_s (hX : pc_X v w S0) (hS : pc_S v w S0 pn r) (hr : r + 1 ≤ 96) : pc_S v w S0 pn (r + 1) := by
  intro y t d ht n s S l s' he hp hn
  obtain ⟨-, -, t8, -⟩ := pc_vv hX
  have he : pr_in pn (pr pn r) s t = some (l, s') := he
  unfold pr_in at he
  rw [show 2 * (r + 1) + 8 = 2 * r + 8 + 1 + 1 by omega, rp_130]
  unfold fn_Printer_show fn_Printer_show_111
  rw [if_pos (show Int32.ofNat (96 - (r + 1)) < 96 from (im_lt (m := 96 - (r + 1)) (n := 96) (by omega) (by omega)).mpr (by omega)), pc_h3 hX hp, if_pos t8, (pc_nd hX hp ht).1, wd_c_s]
  by_cases ok : ev_ok 78 t
  · rw [if_pos ok] at he
    by_cases k1 : tr_k t = 1
    · rw [if_pos k1] at he ⊢
      rw [pc_h3 hX hp, if_pos t8, (pc_nd hX hp ht).2.1, wd_c_s, wd_d_id]
      exact pc_Cf (l := pr_i (tr_v t)) hX pc_show n s S l s' he hp hn
    · rw [if_neg k1] at he ⊢
      by_cases k2 : tr_k t = 2
      · have hn1 : tr_v t = Int32.ofNat (tr_n t) ∧ tr_n t < 16 := by
          rcases ok with q | ⟨-, q1, q2⟩ | ⟨q, -⟩ | ⟨q, -⟩ | ⟨q, -⟩ | ⟨q | q | q | q | q, -⟩
          · exact absurd q k1
          · exact ⟨q1, q2⟩
          all_goals (rw [k2] at q; exact absurd q (by decide))
        rw [if_pos k2] at he ⊢
        rw [pc_h3 hX hp, if_pos t8, (pc_nd hX hp ht).2.1, wd_c_s, wd_d_id]
        exact pc_name hX hn1.1 hn1.2 n s S l s' he hp hn
      · rw [if_neg k2] at he ⊢
        by_cases k3 : tr_k t = 3
        · have hn1 : tr_v t = Int32.ofNat (tr_n t) ∧ tr_n t < 16 ∧ tr_a t = 2 := by
            rcases ok with q | ⟨q, -⟩ | ⟨-, q1, q2, q3⟩ | ⟨q, -⟩ | ⟨q, -⟩ | ⟨q | q | q | q | q, -⟩
            · exact absurd q k1
            · exact absurd q k2
            · exact ⟨q1, q2, q3⟩
            all_goals (rw [k3] at q; exact absurd q (by decide))
          rw [if_pos k3] at he ⊢
          rw [rp_133, wd_d_id]
          exact pc_let hX hS hr ht hn1.2.2 hn1.1 hn1.2.1 n s S l s' he hp hn
        · rw [if_neg k3] at he ⊢
          by_cases k4 : tr_k t = 4
          · have hn1 : tr_a t = 3 := by
              rcases ok with q | ⟨q, -⟩ | ⟨q, -⟩ | ⟨-, q1⟩ | ⟨q, -⟩ | ⟨q | q | q | q | q, -⟩
              · exact absurd q k1
              · exact absurd q k2
              · exact absurd q k3
              · exact q1
              all_goals (rw [k4] at q; exact absurd q (by decide))
            rw [if_pos k4] at he ⊢
            rw [rp_134, wd_d_id]
            exact pc_if hX hS hr ht hn1 n s S l s' he hp hn
          · rw [if_neg k4] at he ⊢
            by_cases k5 : tr_k t = 5
            · have hn1 : tr_v t = Int32.ofNat (tr_n t) ∧ tr_n t < 1000 ∧ tr_a t ≤ 4 := by
                rcases ok with q | ⟨q, -⟩ | ⟨q, -⟩ | ⟨q, -⟩ | ⟨-, q0, q1, q2⟩ | ⟨q | q | q | q | q, -⟩
                · exact absurd q k1
                · exact absurd q k2
                · exact absurd q k3
                · exact absurd q k4
                · exact ⟨q1, by omega, q0⟩
                all_goals (rw [k5] at q; exact absurd q (by decide))
              rw [if_pos k5] at he ⊢
              rw [rp_135, wd_d_id]
              exact pc_call hX hS hr ht hn1.2.2 hn1.1 hn1.2.1 n s S l s' he hp hn
            · have hn1 : (tr_k t = 6 ∨ tr_k t = 7 ∨ tr_k t = 8 ∨ tr_k t = 9 ∨ tr_k t = 10) ∧ tr_a t = 2 := by
                rcases ok with q | ⟨q, -⟩ | ⟨q, -⟩ | ⟨q, -⟩ | ⟨q, -⟩ | q
                · exact absurd q k1
                · exact absurd q k2
                · exact absurd q k3
                · exact absurd q k4
                · exact absurd q k5
                · exact q
              rw [if_neg k5] at he ⊢
              rw [rp_136, wd_d_id]
              exact pc_sign hX hS hr ht hn1.1 hn1.2 n s S l s' he hp hn
  · rw [if_neg ok] at he
    cases he
theorem pc_all (hX : pc_X v w S0) : ∀ r, r ≤ 96 → pc_S v w S0 pn r := by
  intro r
  induction r with
  | zero => intro _ y t d _ n s S l s' he _ _; cases he
  | succ r ih => intro hr; exact pc_s hX (ih (by omega)) hr
end Pc3
end
