/-! The reference's make(): version by version. -/
def me_F (B a b : Nat) : Prop := mm_F B 0 0 0 0 a b ∨ (162 ≤ a ∧ a ≤ 164 ∧ 80 * B ≤ b ∧ b < 80 * B + 80)
def mb_h (B h : Nat) (pg : pg_T) (s : mk_S) (mn ma : Nat) (S : wd_S) : Prop := S.1 135 66 = Int32.ofNat mn ∧ S.1 135 67 = Int32.ofNat (3004 + 6002 * B + ma) ∧ S.1 135 68 = Int32.ofNat s.2.2.1 ∧ S.1 135 69 = Int32.ofNat s.2.2.2 ∧ S.1 135 71 = Int32.ofNat s.2.1 ∧ S.1 135 73 = 0 ∧ mn ≤ s.2.1 ∧ ma ≤ mn ∧ s.2.1 ≤ 1000 ∧ mm_v B h pg s.1 S
def md_D (B mn ma : Nat) (ds : pg_T) (S : wd_S) : Prop := ∀ j, (hj : j < ds.length) → ∃ y, S.1 162 (80 * B + j) = Int32.ofNat y ∧ mm_t B mn ma 96 y ds[j].2.1 S ∧ S.1 163 (80 * B + j) = Int32.ofNat ds[j].2.2.1 ∧ S.1 164 (80 * B + j) = Int32.ofNat ds[j].2.2.2
section Mmd
variable {B h : Nat} {pg ds : pg_T} {S0 S S' S1 S2 S3 S9 : wd_S} {N N' : mk_N} {s s' : mk_S} {k n mn ma ml mn' ma' mn1 ma1 ml1 y z d r c p i f m a g K : Nat} {t : tr_T} {x v : Int32} {R : mk_R} {kn : Nat → Int32}
theorem me_X (hX : mm_X B h pg S0) (ho : of_f (me_F B) S0 S) : mm_X B h pg S := by
  obtain ⟨h1, h2, h3, h4, h5, h6⟩ := hX
  have w : ∀ a b, (a = 135 ∧ b = 64) ∨ (138 ≤ a ∧ a ≤ 141) ∨ (143 ≤ a ∧ a ≤ 149 ∧ b < 3004) → ¬me_F B a b := fun a b q => by unfold me_F mm_F; omega
  refine ⟨h1, h2, by rw [ho.1 135 64 (w _ _ (by omega))]; exact h3, fun j hj => ?_, h5, h6⟩
  exact mo_F_o (fun a q1 q2 => ho.1 a _ (w _ _ (by omega))) (mj_g_o ho (fun a x q1 q2 q3 q4 => w _ _ (by omega)) (fun x q1 q2 => w _ _ (by omega))) (Nat.le_refl _) (Nat.le_refl _) (h4 j hj)
/-- the PARAMS' meanings -/
theorem mv_12 (hpn : a ≤ 4) (hm : m < 16) (hp : p < 160) (hg : g < 96) (h138 : S.1 138 g = Int32.ofNat a) (h160 : S.1 160 p = Int32.ofNat m) (h161 : ∀ i, i < 4 → S.1 161 (4 * p + i) = kn i) : ∀ (r i F : Nat) (S1 : wd_S), i + r = a → of_f (fun a b => a = 169 ∨ a = 170) S S1 → (∀ j, j < i → S1.1 169 j = (if mk_bt m j = true then 1 else 0) ∧ S1.1 170 j = if mk_bt m j = true then kn j else Int32.ofNat (mk_lf m j)) → ∃ S', fn_Mo_makeVersion_12 (F + 1 + r) (Int32.ofNat p) (Int32.ofNat g) (Int32.ofNat (mk_lf m i)) (Int32.ofNat i) S1 = fn_Mo_makeVersion_12 (F + 1) (Int32.ofNat p) (Int32.ofNat g) (Int32.ofNat (mk_lf m a)) (Int32.ofNat a) S' ∧ of_f (fun a b => a = 169 ∨ a = 170) S S' ∧ ∀ j, j < a → S'.1 169 j = (if mk_bt m j = true then 1 else 0) ∧ S'.1 170 j = if mk_bt m j = true then kn j else Int32.ofNat (mk_lf m j) := by
  intro r
  induction r with
  | zero =>
    intro i F S1 hi ho hj
    have hi : i = a := hi
    subst hi
    exact ⟨S1, rfl, ho, hj⟩
  | succ r ih =>
    intro i F S1 hi ho hj
    have hi4 : i < 4 := by omega
    have ea : (4 : Int32) * Int32.ofNat p + Int32.ofNat i = Int32.ofNat (4 * p + i) := by rw [show (4 : Int32) = Int32.ofNat 4 from rfl, im_ma]
    show ∃ S', fn_Mo_makeVersion_12 (F + 1 + r + 1) (Int32.ofNat p) (Int32.ofNat g) (Int32.ofNat (mk_lf m i)) (Int32.ofNat i) S1 = _ ∧ _
    rw [fn_Mo_makeVersion_12, if_neg (ms_in hg (by decide)), im_t (show g < 2147483648 by omega), ho.1 138 g (by omega), h138, if_pos ((im_lt (by omega) (by omega)).mpr (by omega)), if_neg (ms_in hp (by decide)), im_t (show p < 2147483648 by omega), ho.1 160 p (by omega), h160, mk_i_bt m hm i hi4]
    unfold fn_Mo_makeVersion_43 fn_Mo_makeVersion_80 fn_Mo_makeVersion_92
    simp only [wd_b]
    cases hb : mk_bt m i with
    | true =>
      rw [if_pos (rfl : true = true), if_pos rfl, if_neg (fun q => by rcases q with q | q; exact ms_in (show i < 16 by omega) (by decide) q; exact q fo_b1), im_t (show i < 2147483648 by omega), if_neg (show ¬(1 : Int32) = 0 by decide), ea, if_neg (ms_in (show 4 * p + i < 640 by omega) (by decide)), if_neg (ms_iy (show i < 16 by omega) (by decide)), im_t (show 4 * p + i < 2147483648 by omega), if_neg (show ¬(1 : Int32) = 0 by decide), fr_ne (show ¬(161 = 169 ∧ _) by omega), ho.1 161 _ (by omega), h161 i hi4, im_s i]
      have el : Int32.ofNat (mk_lf m i) + 0 = Int32.ofNat (mk_lf m (i + 1)) := by
        show _ = Int32.ofNat (mk_lf m i + (if mk_bt m i = true then 0 else 1))
        rw [hb, if_pos rfl]
        exact (Int32.ofNat_add (mk_lf m i) 0).symm
      rw [el]
      refine ih (i + 1) F _ (by omega) (of_i (Or.inr rfl) (of_i (Or.inl rfl) ho)) (fun j h1 => ?_)
      by_cases e : j = i
      · subst e
        rw [hb, if_pos rfl, if_pos rfl]
        exact ⟨by rw [fr_ne (by omega), fr_eq], fr_eq⟩
      · rw [fr_ne (by omega), fr_ne (by omega), fr_ne (by omega), fr_ne (by omega)]; exact hj j (by omega)
    | false =>
      rw [if_neg (show ¬false = true by decide), if_neg (show ¬(0 : Int32) = 1 by decide), if_neg (fun q => by rcases q with q | q; exact ms_in (show i < 16 by omega) (by decide) q; exact q fo_b0), im_t (show i < 2147483648 by omega), if_pos trivial, if_neg (ms_iy (show i < 16 by omega) (by decide)), if_pos trivial, im_s i]
      have el : Int32.ofNat (mk_lf m i) + 1 = Int32.ofNat (mk_lf m (i + 1)) := by
        show _ = Int32.ofNat (mk_lf m i + (if mk_bt m i = true then 0 else 1))
        rw [hb, if_neg (show ¬false = true by decide), im_s]
      rw [el]
      refine ih (i + 1) F _ (by omega) (of_i (Or.inr rfl) (of_i (Or.inl rfl) ho)) (fun j h1 => ?_)
      by_cases e : j = i
      · subst e
        rw [hb, if_neg (show ¬false = true by decide), if_neg (show ¬false = true by decide)]
        exact ⟨by rw [fr_ne (by omega), fr_eq], fr_eq⟩
      · rw [fr_ne (by omega), fr_ne (by omega), fr_ne (by omega), fr_ne (by omega)]; exact hj j (by omega)
theorem me_169 {k0 n0 mn0 ma0 : Nat} : ∀ a b, a = 169 ∨ a = 170 → mm_F B k0 n0 mn0 ma0 a b := fun a b q => Or.inr (Or.inr (Or.inr (Or.inr (Or.inr (Or.inr (Or.inr (Or.inr (Or.inr (Or.inr (Or.inr ⟨by omega, by omega⟩))))))))))
theorem mm_end73 {F : Nat} {l1 l4 : Int32} (h73 : ¬S.1 135 73 = 0) : fn_Mo_makeVersion_132 (F + 1) l1 l4 S = fn_Mo_makeVersion_181 l1 l4 S := by rw [fn_Mo_makeVersion_132, if_neg h73, ite_self]
theorem mm_node2 (hX : mm_X B h pg S0) (hh : mm_h B h pg S0 N s k n mn ma ml S) (hp : p < 4000) (hr : mm_r B mn ma d p R S) (hd : 1 ≤ d) (hmn : tr_k R.1 = 1 → mn + 1 ≤ 1000) : ∃ z S', fn_Mo_nodeOf (Int32.ofNat p) S = some (Int32.ofNat z, S') ∧ mm_h B h pg S0 N s k n (mn + mm_i R) ma ml S' ∧ mm_t B (mn + mm_i R) ma d z R.1 S' ∧ of_f (fun a b => (a = 135 ∧ b = 66) ∨ (143 ≤ a ∧ a ≤ 146 ∧ b = 3004 + 6002 * B + mn)) S S' := by
  by_cases e : tr_k R.1 = 1
  · exact mm_node hX hh hp hr hd (hmn e)
  · have e0 : mm_i R = 0 := if_neg e
    rw [e0]
    rcases hr with ⟨h1, -⟩ | ⟨-, h2, z, h3, h4⟩
    · exact absurd h1 e
    · refine ⟨z, S, ?_, hh, h4, of_refl⟩
      unfold fn_Mo_nodeOf
      rw [im_t (show p < 2147483648 by omega), if_neg (ms_iy hp (by decide)), h2, if_pos rfl, if_neg (ms_iy hp (by decide)), h3]
/-- a version is made -/
theorem mo_mv (hX : mm_X B h pg S) (hh : mb_h B h pg s mn ma S) (hk : k < s.1.length) : match mk pg 96 (mk_e (pg_n pg s.1[k].1) s.1[k]) s ((pg_P pg).getD s.1[k].1 tr_z) with
    | .error none => True
    | .error (some _) => ∃ S', fn_Mo_makeVersion (Int32.ofNat (80 * B + k)) S = some S' ∧ ¬S'.1 135 73 = 0 ∧ of_f (me_F B) S S'
    | .ok q => ∃ S' mn' ma', fn_Mo_makeVersion (Int32.ofNat (80 * B + k)) S = some S' ∧ mb_h B h pg q.2.2 mn' ma' S' ∧ mn ≤ mn' ∧ ma ≤ ma' ∧ (∃ y, S'.1 162 (80 * B + k) = Int32.ofNat y ∧ mm_t B mn' ma' 96 y q.1.1 S') ∧ S'.1 163 (80 * B + k) = Int32.ofNat q.1.2.1 ∧ S'.1 164 (80 * B + k) = Int32.ofNat q.1.2.2 ∧ of_f (fun a b => mm_F B 0 0 mn ma a b ∨ (162 ≤ a ∧ a ≤ 164 ∧ b = 80 * B + k)) S S' := by
  have hB := hX.1
  have hh1 := hX.2.1
  have hpl := hX.2.2.2.2.1
  have hpn := hX.2.2.2.2.2 s.1[k].1
  obtain ⟨b66, b67, b68, b69, b71, b73, bmn, bma, bg, bv⟩ := hh
  have hlv := mk_ok_len bv.2.1
  obtain ⟨v1, v2, v3⟩ := bv.2.2 k hk
  obtain ⟨w1, w2⟩ := bv.2.1.1 s.1[k] (List.getElem_mem hk)
  have hp16 : 2 ^ pg_n pg s.1[k].1 ≤ 2 ^ 4 := Nat.pow_le_pow_right (by decide) hpn
  obtain ⟨x138, -, -, yb, x140, xt⟩ := hX.2.2.2.1 s.1[k].1 w1
  have hpq : pg[s.1[k].1].1 = pg_n pg s.1[k].1 := by
    unfold pg_n
    rw [List.getD_eq_getElem?_getD, List.getElem?_eq_getElem w1]
    rfl
  rw [hpq] at x138
  have hP : (pg_P pg).getD s.1[k].1 tr_z = pg[s.1[k].1].2.1 := by
    unfold pg_P
    rw [List.getD_eq_getElem?_getD, List.getElem?_map, List.getElem?_eq_getElem w1]
    rfl
  rw [hP]
  obtain ⟨S1, f1, o1, c1⟩ := mv_12 (S := S) (kn := s.1[k].2.2) hpn (show s.1[k].2.1 < 16 by omega) (show 80 * B + k < 160 by omega) (show 48 * h + s.1[k].1 < 96 by omega) x138 v2 v3 (pg_n pg s.1[k].1) 0 (999999 - pg_n pg s.1[k].1) S (Nat.zero_add _) of_refl (fun j hj => absurd hj (Nat.not_lt_zero _))
  rw [show 999999 - pg_n pg s.1[k].1 + 1 + pg_n pg s.1[k].1 = wd_F by rw [show wd_F = 1000000 from rfl]; omega] at f1
  have f1 : fn_Mo_makeVersion_12 wd_F (Int32.ofNat (80 * B + k)) (Int32.ofNat (48 * h + s.1[k].1)) 0 0 S = _ := f1
  generalize hS4 : wd_i (wd_i (wd_i S1 135 70 0) 135 76 0) 135 79 0 = S4
  have o4 : of_f (fun a b => a = 135 ∧ (b = 70 ∨ b = 76 ∨ b = 79)) S1 S4 := by
    rw [← hS4]
    exact of_i (by omega) (of_i (by omega) (of_i (by omega) of_refl))
  have c70 : S4.1 135 70 = 0 := by rw [← hS4, fr_ne (by omega), fr_ne (by omega), fr_eq]
  have c76 : S4.1 135 76 = 0 := by rw [← hS4, fr_ne (by omega), fr_eq]
  have c79 : S4.1 135 79 = 0 := by rw [← hS4, fr_eq]
  have oA : ∀ k0 n0 mn0 ma0, of_f (mm_F B k0 n0 mn0 ma0) S S4 := fun k0 n0 mn0 ma0 => of_trans (of_mono me_169 o1) (of_mono (fun a b q => Or.inl ⟨q.1, by omega⟩) o4)
  have e5 : ∀ b, b ≠ 70 → b ≠ 76 → b ≠ 79 → S4.1 135 b = S.1 135 b := fun b q1 q2 q3 => by rw [o4.1 135 b (by omega), o1.1 135 b (by omega)]
  have h4 : mm_h B h pg S (mk_e (pg_n pg s.1[k].1) s.1[k]) s 0 0 mn ma 0 S4 := by
    refine ⟨oA 0 0 0 0, by rw [e5 66 (by decide) (by decide) (by decide)]; exact b66, by rw [e5 67 (by decide) (by decide) (by decide)]; exact b67, by rw [e5 68 (by decide) (by decide) (by decide)]; exact b68, by rw [e5 69 (by decide) (by decide) (by decide)]; exact b69, c70, by rw [e5 71 (by decide) (by decide) (by decide)]; exact b71, by rw [e5 73 (by decide) (by decide) (by decide)]; exact b73, c76, c79, by omega, by omega, bg, fun j q hj => ?_, by rw [e5 65 (by decide) (by decide) (by decide)]; exact bv.1, bv.2.1, fun j hj => ?_⟩
    · unfold mk_e at hj
      split at hj
      · next hjp =>
        obtain ⟨u1, u2⟩ := c1 j hjp
        have q169 : S4.1 169 j = S1.1 169 j := o4.1 169 j (by omega)
        have q170 : S4.1 170 j = S1.1 170 j := o4.1 170 j (by omega)
        cases hj
        refine ⟨by omega, ?_, ?_, fun hq => ⟨mk_lf s.1[k].2.1 j, ?_, ?_⟩⟩
        · rw [q169, u1]
          cases mk_bt s.1[k].2.1 j <;> rfl
        · rw [q170, u2]
          cases mk_bt s.1[k].2.1 j <;> rfl
        · have := mk_lf_le s.1[k].2.1 j; omega
        · revert hq
          cases mk_bt s.1[k].2.1 j with
          | true => intro hq; cases hq
          | false => intro _; rfl
      · cases hj
    · obtain ⟨l1, l2, l3⟩ := bv.2.2 j hj
      exact ⟨by rw [o4.1 159 _ (by omega), o1.1 159 _ (by omega)]; exact l1, by rw [o4.1 160 _ (by omega), o1.1 160 _ (by omega)]; exact l2, fun i hi => by rw [o4.1 161 _ (by omega), o1.1 161 _ (by omega)]; exact l3 i hi⟩
  have r140 : S4.1 140 (48 * h + s.1[k].1) = Int32.ofNat yb := by rw [o4.1 140 _ (by omega), o1.1 140 _ (by omega)]; exact x140
  have h5 : mm_h B h pg S (mk_e (pg_n pg s.1[k].1) s.1[k]) s 1 0 mn ma 0 (ml_p 0 1 (Int32.ofNat yb) S4) := mm_h_p h4
  have o5 : ∀ k0 n0 mn0 ma0, k0 = 0 → of_f (mm_F B k0 n0 mn0 ma0) S (ml_p 0 1 (Int32.ofNat yb) S4) := fun k0 n0 mn0 ma0 q => of_trans (oA k0 n0 mn0 ma0) (mm_pw (by omega))
  have em : fn_Mo_makeVersion (Int32.ofNat (80 * B + k)) S = fn_Mo_makeVersion_132 wd_F (Int32.ofNat (80 * B + k)) (Int32.ofNat mn) (ml_p 0 1 (Int32.ofNat yb) S4) := by
    unfold fn_Mo_makeVersion
    rw [if_neg (ms_in (show 80 * B + k < 160 by omega) (by decide)), im_t (show 80 * B + k < 2147483648 by omega), v1, f1, fn_Mo_makeVersion_12, if_neg (ms_in (show 48 * h + s.1[k].1 < 96 by omega) (by decide)), im_t (show 48 * h + s.1[k].1 < 2147483648 by omega), o1.1 138 _ (by omega), x138, if_neg Int32.lt_irrefl]
    simp only [wd_b]
    rw [hS4, if_neg (ms_iy (show 48 * h + s.1[k].1 < 96 by omega) (by decide)), r140, mm_later (k := 0) c76 (by decide), wd_d_s, o1.1 135 66 (by omega), b66]
  rw [em]
  have hO := mm_all hX 96 (mk_e (pg_n pg s.1[k].1) s.1[k]) s 0 0 mn ma 0 yb pg[s.1[k].1].2.1 96 (ml_p 0 1 (Int32.ofNat yb) S4) h5 (by rw [ml_165, if_pos rfl]) (by rw [ml_166, if_pos rfl]) bmn bma (by omega) (by omega) xt
  have gl : ∀ S5 l, fn_Mo_makeVersion_199 (Int32.ofNat (80 * B + k)) l S5 = some (wd_i (wd_i S5 163 (80 * B + k) (S5.1 135 66 - l)) 164 (80 * B + k) (S5.1 135 70)) := fun S5 l => by
    unfold fn_Mo_makeVersion_199
    simp only [wd_b]
    rw [if_neg (ms_in (show 80 * B + k < 160 by omega) (by decide)), if_neg (ms_in (show 80 * B + k < 160 by omega) (by decide)), im_t (show 80 * B + k < 2147483648 by omega), fr_ne (show ¬(135 = 163 ∧ _) by omega)]
  cases hm : mk pg 96 (mk_e (pg_n pg s.1[k].1) s.1[k]) s pg[s.1[k].1].2.1 with
  | error e =>
    rw [hm] at hO
    cases e with
    | none => trivial
    | some e =>
      obtain ⟨gg, S6, g1, g2, g3, g4⟩ := hO
      have g1 := g1 (wd_F - gg - 1 + 1) (Int32.ofNat (80 * B + k)) (Int32.ofNat mn)
      rw [show wd_F - gg - 1 + 1 + gg = wd_F by rw [show wd_F = 1000000 from rfl]; omega, mm_end73 g3] at g1
      unfold fn_Mo_makeVersion_181 at g1
      rw [if_neg g3, gl] at g1
      refine ⟨_, g1, by rw [fr_ne (by omega), fr_ne (by omega)]; exact g3, of_trans (of_mono (fun a b q => Or.inl q) (o5 0 0 0 0 rfl)) (of_trans (of_mono (fun a b q => Or.inl (mm_F_le (Nat.zero_le _) (Nat.zero_le _) (Nat.zero_le _) (Nat.zero_le _) a b q)) g4) (of_i (Or.inr (by omega)) (of_i (Or.inr (by omega)) of_refl)))⟩
  | ok q =>
    rw [hm] at hO
    obtain ⟨gg, S6, g1, g2, ma6, h6, i6, j6, r6, o6⟩ := hO
    obtain ⟨p1, p2, p3, p4⟩ := mk_gs _ _ _ _ _ hm
    have p2 := p2 bg
    have nq := mm_nzi p4
    have g1 := g1 (wd_F - gg - 1 + 1) (Int32.ofNat (80 * B + k)) (Int32.ofNat mn)
    rw [show wd_F - gg - 1 + 1 + gg = wd_F by rw [show wd_F = 1000000 from rfl]; omega, fn_Mo_makeVersion_132, h6.2.2.2.2.2.2.2.2.1, if_neg (show ¬(0 : Int32) < Int32.ofNat 0 by decide)] at g1
    unfold fn_Mo_makeVersion_181 at g1
    obtain ⟨x7, S7, f7, h7, t7, o7⟩ := mm_node2 hX h6 (show 0 < 4000 by decide) r6 (by decide) (fun e1 => by have e0 : mm_nz q.1 = 0 := if_pos e1; omega)
    have h7 : mm_h B h pg S q.2.1 q.2.2 0 (0 + 1) (mn + mm_nz q.1 + mm_i q.1) ma6 (0 + q.1.2.2) S7 := h7
    have t7 : mm_t B (mn + mm_nz q.1 + mm_i q.1) ma6 96 x7 q.1.1 S7 := t7
    have f7 : fn_Mo_nodeOf 0 S6 = some (Int32.ofNat x7, S7) := f7
    rw [if_pos h6.2.2.2.2.2.2.2.1, f7, wd_c_s, if_neg (ms_in (show 80 * B + k < 160 by omega) (by decide)), im_t (show 80 * B + k < 2147483648 by omega)] at g1
    simp only [wd_b] at g1
    rw [gl, fr_ne (show ¬(135 = 162 ∧ _) by omega), fr_ne (show ¬(135 = 162 ∧ _) by omega), h7.2.1, h7.2.2.2.2.2.1, show mn + mm_nz q.1 + mm_i q.1 = q.1.2.1 + mn by omega, im_sb, Nat.zero_add] at g1
    generalize hS8 : wd_i (wd_i (wd_i S7 162 (80 * B + k) (Int32.ofNat x7)) 163 (80 * B + k) (Int32.ofNat q.1.2.1)) 164 (80 * B + k) (Int32.ofNat q.1.2.2) = S8 at *
    have o8 : of_f (fun a b => 162 ≤ a ∧ a ≤ 164 ∧ b = 80 * B + k) S7 S8 := by
      rw [← hS8]
      exact of_i (by omega) (of_i (by omega) (of_i (by omega) of_refl))
    rw [show mn + mm_nz q.1 + mm_i q.1 = mn + q.1.2.1 by omega] at h7 t7
    have hma7 : ma6 ≤ mn + q.1.2.1 := by
      unfold mm_nz at i6
      split at i6 <;> omega
    obtain ⟨a1, a2, a3, a4, a5, a6, a7, a8, a9, a10, a11, a12, a13, a14, a15⟩ := h7
    refine ⟨S8, mn + q.1.2.1, ma6, g1, ⟨by rw [o8.1 135 66 (by omega)]; exact a2, by rw [o8.1 135 67 (by omega)]; exact a3, by rw [o8.1 135 68 (by omega)]; exact a4, by rw [o8.1 135 69 (by omega)]; exact a5, by rw [o8.1 135 71 (by omega)]; exact a7, by rw [o8.1 135 73 (by omega)]; exact a8, by omega, hma7, a13, by rw [o8.1 135 65 (by omega)]; exact a15.1, a15.2.1, fun j hj => ?_⟩, Nat.le_add_right _ _, j6, ⟨x7, by rw [← hS8, fr_ne (by omega), fr_ne (by omega), fr_eq], ?_⟩, by rw [← hS8, fr_ne (by omega), fr_eq], by rw [← hS8, fr_eq], ?_⟩
    · obtain ⟨l1, l2, l3⟩ := a15.2.2 j hj
      exact ⟨by rw [o8.1 159 _ (by omega)]; exact l1, by rw [o8.1 160 _ (by omega)]; exact l2, fun i hi => by rw [o8.1 161 _ (by omega)]; exact l3 i hi⟩
    · exact mj_t_m (Nat.le_refl _) (Nat.le_refl _) (Nat.le_refl _) (Nat.le_refl _) (mj_g_o o8 (fun a x q1 q2 q3 q4 => by omega) (fun x q1 q2 => by omega)) _ _ _ t7
    · exact of_trans (of_mono (fun a b q => Or.inl q) (o5 0 0 mn ma rfl)) (of_trans (of_mono (fun a b q => Or.inl q) o6) (of_trans (of_mono (fun a b q => Or.inl q) (mm_nw hX (by have := h6.2.2.2.2.2.2.2.2.2.2.1; omega) o7 (Nat.le_add_right _ _))) (of_mono (fun a b q => Or.inr q) o8)))
end Mmd
