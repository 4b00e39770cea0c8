/-! make() of the reference. -/
section Mmf
variable {B h : Nat} {pg ds : pg_T} {S0 S S' S1 S2 S3 S9 : wd_S} {s s' : mk_S} {k n mn ma ml mn' ma' y z d r c i f m a g K V : Nat} {t : tr_T} {x v p : Int32} {kn : Nat → Int32}
theorem mo_make_x (h41 : S.1 135 41 = 0) : fn_Mo_make p S = some (0, wd_i S 135 0 1) := by
  unfold fn_Mo_make fn_Mo_make_25
  simp only [wd_b]
  rw [if_pos h41, fr_eq, if_pos (by decide)]
theorem mo_make_i (h41 : S.1 135 41 = 1) (hh : h ≤ 1) (h42 : S.1 135 42 = Int32.ofNat h) (h150 : S.1 150 h = Int32.ofNat n) (hn : 1 ≤ n) (hn2 : n ≤ 1000) (hp : p < 0 ∨ ¬p < Int32.ofNat n) : fn_Mo_make p S = some (0, wd_i S 135 0 2) := by
  unfold fn_Mo_make fn_Mo_make_25
  simp only [wd_b]
  rw [h41, if_neg (show ¬(1 : Int32) = 0 by decide), mo_isfn h41 hh h42 h150 hn hn2, wd_c_s, if_pos hp, if_pos rfl, fr_eq, if_pos (by decide)]
theorem mo_make_ok (hV : V ≤ 1) (hBV : B = 1 - V) (h63 : S.1 135 63 = Int32.ofNat V) (h41 : S.1 135 41 = 1) (hh : h ≤ 1) (h42 : S.1 135 42 = Int32.ofNat h) (h150 : S.1 150 h = Int32.ofNat pg.length) (hP : mo_P h pg S) (hpl : pg.length ≤ 48) (hpn : ∀ f, pg_n pg f ≤ 4) (hf : f < pg.length) (hm : m < 16) (hk : kn_is m S) (h174 : ∀ i, i < 4 → S.1 174 i = kn i) : match mk_all pg f (m % 2 ^ pg_n pg f) kn with
    | .error none => True
    | .error (some _) => ∃ S', fn_Mo_make (Int32.ofNat f) S = some (0, S') ∧ S'.1 135 0 = 3 ∧ of_f (mf_F B) S S'
    | .ok q => ∃ S' mn ma, fn_Mo_make (Int32.ofNat f) S = some (Int32.ofNat q.2.1.length, S') ∧ S'.1 135 0 = 0 ∧ S'.1 135 63 = Int32.ofNat B ∧ S'.1 135 59 = Int32.ofNat q.2.1.length ∧ (∀ j, j < 4 → S'.1 173 j = 0) ∧ mm_v B h pg q.2.1 S' ∧ md_D B mn ma q.1 S' ∧ mn ≤ 1000 ∧ ma ≤ 1000 ∧ q.1.length = q.2.1.length ∧ of_f (mg_F B) S S' := by
  have hB : B ≤ 1 := by omega
  have hpf := hpn f
  obtain ⟨x138, -⟩ := hP f hf
  have hpq : pg[f].1 = pg_n pg f := by
    unfold pg_n
    rw [List.getD_eq_getElem?_getD, List.getElem?_eq_getElem hf]
    rfl
  rw [hpq] at x138
  have eB : (1 : Int32) - Int32.ofNat V = Int32.ofNat B := by
    have e1 : (1 : Int32) = Int32.ofNat (B + V) := by rw [show B + V = 1 by omega]; rfl
    rw [e1, im_sb]
  have eg : (48 : Int32) * Int32.ofNat h + Int32.ofNat f = Int32.ofNat (48 * h + f) := by rw [show (48 : Int32) = Int32.ofNat 48 from rfl, im_ma]
  have e67 : (3004 : Int32) + 6002 * Int32.ofNat B = Int32.ofNat (3004 + 6002 * B + 0) := by
    rw [← mm_ad B 0]
    exact (Int32.add_zero _).symm
  have hnf : ¬(Int32.ofNat f < 0 ∨ ¬Int32.ofNat f < Int32.ofNat pg.length) := fun q => by
    rcases q with q | q
    · exact im_neg (by omega) q
    · exact q ((im_lt (by omega) (by omega)).mpr hf)
  generalize hS1 : wd_i (wd_i (wd_i (wd_i (wd_i (wd_i (wd_i (wd_i (wd_i S 135 0 0) 135 64 (Int32.ofNat B)) 135 65 0) 135 66 0) 135 67 (Int32.ofNat (3004 + 6002 * B + 0))) 135 68 0) 135 69 0) 135 71 0) 135 73 0 = S1
  have o1 : of_f (fun a b => a = 135 ∧ (b = 0 ∨ (64 ≤ b ∧ b ≤ 69) ∨ b = 71 ∨ b = 73)) S S1 := by
    rw [← hS1]
    exact of_i (by omega) (of_i (by omega) (of_i (by omega) (of_i (by omega) (of_i (by omega) (of_i (by omega) (of_i (by omega) (of_i (by omega) (of_i (by omega) of_refl))))))))
  have c73 : S1.1 135 73 = 0 := by rw [← hS1, fr_eq]
  have c71 : S1.1 135 71 = 0 := by rw [← hS1, fr_ne (by omega), fr_eq]
  have c69 : S1.1 135 69 = 0 := by rw [← hS1, fr_ne (by omega), fr_ne (by omega), fr_eq]
  have c68 : S1.1 135 68 = 0 := by rw [← hS1, fr_ne (by omega), fr_ne (by omega), fr_ne (by omega), fr_eq]
  have c67 : S1.1 135 67 = Int32.ofNat (3004 + 6002 * B + 0) := by rw [← hS1, fr_ne (by omega), fr_ne (by omega), fr_ne (by omega), fr_ne (by omega), fr_eq]
  have c66 : S1.1 135 66 = 0 := by rw [← hS1, fr_ne (by omega), fr_ne (by omega), fr_ne (by omega), fr_ne (by omega), fr_ne (by omega), fr_eq]
  have c65 : S1.1 135 65 = 0 := by rw [← hS1, fr_ne (by omega), fr_ne (by omega), fr_ne (by omega), fr_ne (by omega), fr_ne (by omega), fr_ne (by omega), fr_eq]
  have c64 : S1.1 135 64 = Int32.ofNat B := by rw [← hS1, fr_ne (by omega), fr_ne (by omega), fr_ne (by omega), fr_ne (by omega), fr_ne (by omega), fr_ne (by omega), fr_ne (by omega), fr_eq]
  have c0 : S1.1 135 0 = 0 := by rw [← hS1, fr_ne (by omega), fr_ne (by omega), fr_ne (by omega), fr_ne (by omega), fr_ne (by omega), fr_ne (by omega), fr_ne (by omega), fr_ne (by omega), fr_eq]
  have e1 : fn_Mo_make (Int32.ofNat f) S = fn_Mo_make_108 wd_F (Int32.ofNat (48 * h + f)) 0 0 S1 := by
    unfold fn_Mo_make fn_Mo_make_25
    simp only [wd_b]
    rw [h41, if_neg (show ¬(1 : Int32) = 0 by decide), mo_isfn h41 hh h42 h150 (by omega) (by omega), wd_c_s, if_neg hnf, if_neg (show ¬(1 : Int32) = 0 by decide), fr_eq, if_neg (by decide), fr_ne (show ¬(135 = 135 ∧ 63 = 0) by omega), h63, eB, fr_ne (show ¬(135 = 135 ∧ 64 = 66) by omega), fr_ne (show ¬(135 = 135 ∧ 64 = 65) by omega), fr_eq, e67, hS1, fr_ne (show ¬(135 = 135 ∧ 42 = 0) by omega), h42, eg]
  obtain ⟨S2, f2, o2, k2⟩ := mo_108 (S := S1) (kn := kn) hm hpf (show 48 * h + f < 96 by omega) (by rw [o1.1 138 _ (by omega)]; exact x138) (fun i hi => by rw [o1.1 173 i (by omega)]; exact hk i hi) (fun i hi => by rw [o1.1 174 i (by omega)]; exact h174 i hi) (pg_n pg f) 0 (999999 - pg_n pg f) S1 (Nat.zero_add _) of_refl (fun j hj => absurd hj (Nat.not_lt_zero _))
  rw [show 999999 - pg_n pg f + 1 + pg_n pg f = wd_F by rw [show wd_F = 1000000 from rfl]; omega] at f2
  have f2 : fn_Mo_make_108 wd_F (Int32.ofNat (48 * h + f)) 0 0 S1 = _ := f2
  generalize hmm : m % 2 ^ pg_n pg f = m' at *
  have hm' : m' < 2 ^ pg_n pg f := by rw [← hmm]; exact Nat.mod_lt _ (Nat.two_pow_pos _)
  have hp16 : 2 ^ pg_n pg f ≤ 2 ^ 4 := Nat.pow_le_pow_right (by decide) hpf
  have vE : mk_ok pg [] := ⟨fun q hq => absurd hq List.not_mem_nil, fun q hq => by rw [List.drop_nil] at hq; exact absurd hq List.not_mem_nil, by rw [List.drop_nil]; exact List.nodup_nil⟩
  have hok : mk_ok pg ([] ++ [mk_new f m' kn]) := mk_ok_add vE hf hm' (Or.inl (by decide))
  have v2 : mm_v B h pg [] S2 := ⟨by rw [o2.1 135 65 (by omega)]; exact c65, vE, fun j hj => absurd hj (Nat.not_lt_zero _)⟩
  have hkn : ∀ i, i < 4 → mk_bt m' i = true → S2.1 171 i = kn i := fun i hi hb => by
    rcases Nat.lt_or_ge i (pg_n pg f) with q | q
    · exact k2 i q
    · rw [mk_bt_lt hm' q] at hb; cases hb
  obtain ⟨S3, f3, o3, v3⟩ := mv_add (f := f) (m := m') (kn := kn) hB v2 hpl hpn hok hkn
  have e3 : fn_Mo_make_108 (999999 - pg_n pg f + 1) (Int32.ofNat (48 * h + f)) (Int32.ofNat m') (Int32.ofNat (pg_n pg f)) S2 = fn_Mo_make_172 wd_F 0 S3 := by
    rw [fn_Mo_make_108, if_neg (ms_in (show 48 * h + f < 96 by omega) (by decide)), im_t (show 48 * h + f < 2147483648 by omega), o2.1 138 _ (by omega), o1.1 138 _ (by omega), x138, if_neg Int32.lt_irrefl, mv_of (vs := []) hB hh (by rw [o2.1 135 64 (by omega)]; exact c64) (show m' < 16 by omega) (by omega) v2 hpl hpn hkn]
    show wd_c (mv_tl _ _ _ _ _) _ = _
    unfold mv_tl
    rw [if_neg (show ¬(1 : Int32) = 0 by decide), f3, wd_c_s]
  have oA : of_f (fun a b => (a = 135 ∧ (b = 0 ∨ (64 ≤ b ∧ b ≤ 69) ∨ b = 71 ∨ b = 73)) ∨ a = 171 ∨ ((a = 159 ∨ a = 160) ∧ 80 * B ≤ b ∧ b < 80 * B + 80) ∨ (a = 161 ∧ 320 * B ≤ b ∧ b < 320 * B + 320)) S S3 := of_trans (of_mono (fun a b q => Or.inl q) o1) (of_trans (of_mono (fun a b q => Or.inr (Or.inl q)) o2) (of_mono (fun a b q => by omega) o3))
  have wA : ∀ a b, ((a = 135 ∧ (b = 0 ∨ (64 ≤ b ∧ b ≤ 69) ∨ b = 71 ∨ b = 73)) ∨ a = 171 ∨ ((a = 159 ∨ a = 160) ∧ 80 * B ≤ b ∧ b < 80 * B + 80) ∨ (a = 161 ∧ 320 * B ≤ b ∧ b < 320 * B + 320)) → mf_F B a b := fun a b q => by
    rcases q with q | q | q | q
    · by_cases w : b = 0 ∨ b = 64
      · exact Or.inr ⟨q.1, w⟩
      · exact Or.inl (Or.inl (Or.inl ⟨q.1, by omega⟩))
    · exact Or.inl (Or.inl (mm_171_F a b q))
    · exact Or.inl (Or.inl (Or.inr (Or.inr (Or.inr (Or.inr (Or.inr (Or.inr (Or.inr (Or.inl q)))))))))
    · exact Or.inl (Or.inl (Or.inr (Or.inr (Or.inr (Or.inr (Or.inr (Or.inr (Or.inr (Or.inr (Or.inl q))))))))))
  have oF : of_f (mf_F B) S S3 := of_mono wA oA
  have hX3 : mm_X B h pg S3 := by
    refine ⟨hB, hh, by rw [o3.1 135 64 (by omega), o2.1 135 64 (by omega)]; exact c64, fun j hj => ?_, hpl, hpn⟩
    exact mo_F_o (fun a q1 q2 => oA.1 a _ (by omega)) (mj_g_o oA (fun a x q1 q2 q3 q4 => by omega) (fun x q1 q2 => by omega)) (Nat.le_refl _) (Nat.le_refl _) (hP j hj)
  have e5 : ∀ b, b ≠ 65 → S3.1 135 b = S1.1 135 b := fun b hb => by rw [o3.1 135 b (by omega), o2.1 135 b (by omega)]
  have h3 : mb_h B h pg ([mk_new f m' kn], 0, 0, 0) 0 0 S3 := ⟨by rw [e5 66 (by decide)]; exact c66, by rw [e5 67 (by decide)]; exact c67, by rw [e5 68 (by decide)]; exact c68, by rw [e5 69 (by decide)]; exact c69, by rw [e5 71 (by decide)]; exact c71, by rw [e5 73 (by decide)]; exact c73, Nat.le_refl _, Nat.le_refl _, Nat.zero_le _, v3⟩
  have hlp := mo_lp 79 0 [] ([mk_new f m' kn], 0, 0, 0) 0 0 (999999 - 79) S3 rfl hX3 h3 rfl (Nat.zero_le _) (fun j hj => absurd hj (Nat.not_lt_zero _))
  have hlp : match mk_all pg f m' kn with
      | .error none => True
      | .error (some _) => ∃ S', fn_Mo_make_172 wd_F 0 S3 = fn_Mo_make_208 S' ∧ ¬S'.1 135 73 = 0 ∧ of_f (me_F B) S3 S'
      | .ok q => ∃ S' mn' ma', fn_Mo_make_172 wd_F 0 S3 = fn_Mo_make_208 S' ∧ mb_h B h pg q.2 mn' ma' S' ∧ md_D B mn' ma' q.1 S' ∧ q.1.length = q.2.1.length ∧ of_f (me_F B) S3 S' := hlp
  rw [e1, f2, e3]
  have z3 : S3.1 135 0 = 0 := by rw [e5 0 (by decide)]; exact c0
  cases hq : mk_all pg f m' kn with
  | error e =>
    rw [hq] at hlp
    cases e with
    | none => trivial
    | some e =>
      obtain ⟨S4, f4, g4, o4⟩ := hlp
      refine ⟨wd_i S4 135 0 3, ?_, fr_eq, of_i (Or.inr (by omega)) (of_trans oF (of_mono (fun a b q => Or.inl q) o4))⟩
      rw [f4]
      unfold fn_Mo_make_208
      rw [if_neg g4]
      rfl
  | ok q =>
    rw [hq] at hlp
    obtain ⟨S4, mn4, ma4, f4, h4, d4, l4, o4⟩ := hlp
    rw [f4]
    have e63 : S4.1 135 64 = Int32.ofNat B := (me_X hX3 o4).2.2.1
    have e65 := h4.2.2.2.2.2.2.2.2.2.1
    have z4 : S4.1 135 0 = 0 := by rw [o4.1 135 0 (by unfold me_F mm_F; omega)]; exact z3
    unfold fn_Mo_make_208
    simp only [wd_b]
    rw [if_pos h4.2.2.2.2.2.1, e63, fr_ne (show ¬(135 = 135 ∧ 65 = 63) by omega), e65]
    generalize hS5 : wd_i (wd_i (wd_i (wd_i (wd_i (wd_i S4 135 63 (Int32.ofNat B)) 135 59 (Int32.ofNat q.2.1.length)) 135 60 _) 135 61 _) 135 62 _) 135 72 _ = S5
    have o5 : of_f (fun a b => a = 135 ∧ (b = 63 ∨ (59 ≤ b ∧ b ≤ 62) ∨ b = 72)) S4 S5 := by
      rw [← hS5]
      exact of_i (by omega) (of_i (by omega) (of_i (by omega) (of_i (by omega) (of_i (by omega) (of_i (by omega) of_refl)))))
    have y59 : S5.1 135 59 = Int32.ofNat q.2.1.length := by rw [← hS5, fr_ne (by omega), fr_ne (by omega), fr_ne (by omega), fr_ne (by omega), fr_eq]
    have y63 : S5.1 135 63 = Int32.ofNat B := by rw [← hS5, fr_ne (by omega), fr_ne (by omega), fr_ne (by omega), fr_ne (by omega), fr_ne (by omega), fr_eq]
    clear hS5
    obtain ⟨S6, f6, o6, k6⟩ := mo_273 (S := S5) 4 0 999995 S5 rfl of_refl (fun j hj => absurd hj (Nat.not_lt_zero _))
    have f6 : fn_Mo_make_273 wd_F 0 S5 = some (S5.1 135 59, S6) := f6
    have o56 : of_f (fun a b => (a = 135 ∧ (b = 63 ∨ (59 ≤ b ∧ b ≤ 62) ∨ b = 72)) ∨ a = 173) S4 S6 := of_trans (of_mono (fun a b q => Or.inl q) o5) (of_mono (fun a b q => Or.inr q) o6)
    rw [f6, y59]
    have hmm4 := h4.2.2.2.2.2.2.1
    have hma4 := h4.2.2.2.2.2.2.2.1
    have hg4 := h4.2.2.2.2.2.2.2.2.1
    have v4 := h4.2.2.2.2.2.2.2.2.2
    refine ⟨S6, mn4, ma4, rfl, by rw [o56.1 135 0 (by omega)]; exact z4, by rw [o6.1 135 63 (by omega)]; exact y63, by rw [o6.1 135 59 (by omega)]; exact y59, k6, ⟨by rw [o56.1 135 65 (by omega)]; exact v4.1, v4.2.1, fun j hj => ?_⟩, fun j hj => ?_, by omega, by omega, l4, of_trans (of_mono (fun a b z => Or.inl z) oF) (of_trans (of_mono (fun a b z => Or.inl (Or.inl z)) o4) (of_mono (fun a b z => by rcases z with z | z; exact Or.inr (Or.inl z); exact Or.inr (Or.inr z)) o56))⟩
    · obtain ⟨l1, l2, l3⟩ := v4.2.2 j hj
      exact ⟨by rw [o56.1 159 _ (by omega)]; exact l1, by rw [o56.1 160 _ (by omega)]; exact l2, fun i hi => by rw [o56.1 161 _ (by omega)]; exact l3 i hi⟩
    · obtain ⟨y, y1, y2, y3, y4⟩ := d4 j hj
      exact ⟨y, by rw [o56.1 162 _ (by omega)]; exact y1, mj_t_m (Nat.le_refl _) (Nat.le_refl _) (Nat.le_refl _) (Nat.le_refl _) (mj_g_o o56 (fun a x q1 q2 q3 q4 => by omega) (fun x q1 q2 => by omega)) _ _ _ y2, by rw [o56.1 163 _ (by omega)]; exact y3, by rw [o56.1 164 _ (by omega)]; exact y4⟩
end Mmf
