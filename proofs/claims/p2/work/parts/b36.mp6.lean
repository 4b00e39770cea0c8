/-! The reference's print(). -/
def pw_P (B : Nat) (ds : pg_T) (S : wd_S) : Prop := B ≤ 1 ∧ S.1 135 63 = Int32.ofNat B ∧ S.1 135 59 = Int32.ofNat ds.length ∧ ds.length ≤ 78 ∧ ∀ j, (hj : j < ds.length) → ds[j].1 ≤ 4 ∧ (∃ g m n, g < 96 ∧ n ≤ 4 ∧ m < 2 ^ n ∧ S.1 159 (80 * B + j) = Int32.ofNat g ∧ S.1 160 (80 * B + j) = Int32.ofNat m ∧ S.1 138 g = Int32.ofNat n ∧ ds[j].1 = mk_lf m n) ∧ ∃ y, S.1 162 (80 * B + j) = Int32.ofNat y ∧ mm_t B 1000 1000 96 y ds[j].2.1 S
section Mp6
variable {B pn k n m k' y z d r j g lo hi al ah i X a c : Nat} {l l0 l1 l2 : List Int32} {S0 S S' S1 S2 : wd_S} {t : tr_T} {s s' s0 s1 : pr_S} {x v : Int32} {e : Int64} {ds : pg_T} {kk : Int32 → wd_S → Option (Int32 × wd_S)}
theorem pw_P_o (ho : of_f (fun a b => (a = 135 ∧ ¬b = 63 ∧ ¬b = 59) ∨ 165 ≤ a) S S') (h : pw_P B ds S) : pw_P B ds S' := by
  obtain ⟨h1, h2, h3, h4, h5⟩ := h
  refine ⟨h1, by rw [ho.1 135 63 (by omega)]; exact h2, by rw [ho.1 135 59 (by omega)]; exact h3, h4, fun j hj => ?_⟩
  obtain ⟨a1, ⟨g, m, n, b1, b2, b3, b4, b5, b6, b7⟩, y, c1, c2⟩ := h5 j hj
  refine ⟨a1, ⟨g, m, n, b1, b2, b3, by rw [ho.1 159 _ (by omega)]; exact b4, by rw [ho.1 160 _ (by omega)]; exact b5, by rw [ho.1 138 _ (by omega)]; exact b6, b7⟩, y, by rw [ho.1 162 _ (by omega)]; exact c1, ?_⟩
  exact mj_t_m (Nat.le_refl _) (Nat.le_refl _) (Nat.le_refl _) (Nat.le_refl _) (mj_g_o ho (fun a x _ _ _ _ q => by omega) (fun x _ _ q => by omega)) 96 y ds[j].2.1 c2
theorem pw_o_P (ho : pw_o n l S S') (h : pw_P B ds S) : pw_P B ds S' := pw_P_o (of_mono (fun a b q => by omega) ho.1) h
/-- a version -/
theorem pw_v (hP : pw_P B ds S) (hc : c < ds.length) (h88 : S.1 135 88 = Int32.ofNat n) (he : pr_v c ds[c].1 ds[c].2.1 = some l) (hn : n + l.length ≤ 40000) {F : Nat} : ∃ S', fn_Mo_print_32 (F + 1) (Int32.ofNat c) S = fn_Mo_print_32 F (Int32.ofNat (c + 1)) S' ∧ pw_o n l S S' := by
  obtain ⟨hB, h63, h59, hd, hv⟩ := hP
  obtain ⟨a1, ⟨g, m, np, b1, b2, b3, b4, b5, b6, b7⟩, y, c1, c2⟩ := hv c hc
  unfold pr_v at he
  generalize hpn : ds[c].1 = pn at he a1 b7
  generalize ht : ds[c].2.1 = t at he c2
  cases hq : pr pn 96 (0, fun _ => none) t with
  | none => rw [hq] at he; cases he
  | some q =>
    rw [hq] at he
    obtain ⟨lq, sq⟩ := q
    have he : l = 118 :: pr_n c ++ 40 :: pr_ps pn 0 ++ pr_x 18 ++ lq ++ pr_x 19 := by cases he; rfl
    have x18 : pr_8 689978656 = pr_x 18 := by decide +kernel
    have x19 : pr_x 19 = [59, 10] := by decide +kernel
    have el : l = ((((([118] ++ pr_n c) ++ [40]) ++ pr_ps pn 0) ++ pr_x 18) ++ lq) ++ ([59] ++ [10]) := by
      rw [he, x19]
      simp only [List.append_assoc, List.cons_append, List.nil_append]
    have hl : l.length = 1 + (pr_n c).length + 1 + (pr_ps pn 0).length + (pr_x 18).length + lq.length + 2 := by
      rw [el, List.length_append, List.length_append, List.length_append, List.length_append, List.length_append, List.length_append]
      rfl
    have o0 : of_f (fun a b => (a = 135 ∧ (b = 76 ∨ b = 92 ∨ b = 93)) ∨ a = 165 ∨ a = 166) S (wd_i (wd_i S 135 93 (Int32.ofNat pn)) 135 92 0) := of_i (by omega) (of_i (by omega) of_refl)
    generalize hSa : wd_i (wd_i S 135 93 (Int32.ofNat pn)) 135 92 0 = Sa at o0
    have p0 := pw_0 o0 h88
    have a93 : Sa.1 135 93 = Int32.ofNat pn := by rw [← hSa, fr_ne (by omega), fr_eq]
    have a92 : Sa.1 135 92 = 0 := by rw [← hSa, fr_eq]
    obtain ⟨Sb, fb, ob⟩ := mp_lay (x := 118) n Sa p0.2.1 (by show n + 1 ≤ 40000; omega)
    have lb : [(118 : Int32)].length = 1 := rfl
    obtain ⟨Sc, fc, oc⟩ := mp_num (m := c) (by omega) (n + [(118 : Int32)].length) Sb ob.2.1 (by rw [lb]; omega)
    have pc := mp_cat ob oc
    have lc : ([(118 : Int32)] ++ pr_n c).length = 1 + (pr_n c).length := by rw [List.length_append]; rfl
    obtain ⟨Sd, fd, od⟩ := mp_lay (x := 40) (n + ([(118 : Int32)] ++ pr_n c).length) Sc pc.2.1 (by show n + ([(118 : Int32)] ++ pr_n c).length + 1 ≤ 40000; rw [lc]; omega)
    have pd := mp_cat pc od
    have ld : ([(118 : Int32)] ++ pr_n c ++ [40]).length = 1 + (pr_n c).length + 1 := by rw [List.length_append, lc]; rfl
    obtain ⟨Se, fe, oe⟩ := pw_92 (kk := fn_Mo_print_32 F) (l1 := Int32.ofNat c) (l2 := Int32.ofNat (80 * B + c)) a1 pn 0 (999999 - pn) (n + ([(118 : Int32)] ++ pr_n c ++ [40]).length) Sd (by omega) (by rw [pd.1.1 135 93 (by omega)]; exact a93) pd.2.1 (by rw [ld]; omega)
    rw [show 999999 - pn + 1 + pn = wd_F by rw [show wd_F = 1000000 from rfl]; omega] at fe
    have pe := mp_cat pd oe
    have le : ([(118 : Int32)] ++ pr_n c ++ [40] ++ pr_ps pn 0).length = 1 + (pr_n c).length + 1 + (pr_ps pn 0).length := by rw [List.length_append, ld]
    obtain ⟨Sf, ff, of⟩ := mp_all (e := 689978656) (n + ([(118 : Int32)] ++ pr_n c ++ [40] ++ pr_ps pn 0).length) Se pe.2.1 (by rw [x18, le]; omega)
    rw [x18] at of
    have pf := mp_cat pe of
    have e93 : Se.1 135 93 = Int32.ofNat pn := by rw [pe.1.1 135 93 (by omega)]; exact a93
    generalize hlf : [(118 : Int32)] ++ pr_n c ++ [40] ++ pr_ps pn 0 ++ pr_x 18 = lf at pf el
    have llf : lf.length = 1 + (pr_n c).length + 1 + (pr_ps pn 0).length + (pr_x 18).length := by rw [← hlf, List.length_append, le]
    have f93 : Sf.1 135 93 = Int32.ofNat pn := by rw [pf.1.1 135 93 (by omega)]; exact a93
    have f92 : Sf.1 135 92 = 0 := by rw [pf.1.1 135 92 (by omega)]; exact a92
    have osf : of_f (fun a b => (a = 135 ∧ ¬b = 63 ∧ ¬b = 59) ∨ 165 ≤ a) S Sf := of_trans (of_mono (fun a b q => by omega) o0) (of_mono (fun a b q => by omega) pf.1)
    have f162 : Sf.1 162 (80 * B + c) = Int32.ofNat y := by rw [osf.1 162 _ (by omega)]; exact c1
    have ftr : mm_t B 1000 1000 96 y t Sf := mj_t_m (Nat.le_refl _) (Nat.le_refl _) (Nat.le_refl _) (Nat.le_refl _) (mj_g_o osf (fun a x _ _ _ _ q => by omega) (fun x _ _ q => by omega)) 96 y t c2
    generalize hSg : wd_i Sf 135 76 0 = Sg
    have og : of_f (fun a b => (a = 135 ∧ (b = 76 ∨ b = 92 ∨ b = 93)) ∨ a = 165 ∨ a = 166) Sf Sg := by rw [← hSg]; exact of_i (by omega) of_refl
    have g76 : Sg.1 135 76 = Int32.ofNat 0 := by rw [← hSg, fr_eq]; rfl
    have g162 : Sg.1 162 (80 * B + c) = Int32.ofNat y := by rw [og.1 162 _ (by omega)]; exact f162
    have hpg : pm_h Sg pn 0 (n + lf.length) (0, fun _ => none) Sg := ⟨of_refl, g76, by rw [og.1 135 88 (by omega)]; exact pf.2.1, by rw [← hSg, fr_ne (by omega)]; exact f92, Nat.zero_le _, fun i j q => by cases q⟩
    obtain ⟨Sh, fh, rh, h165, h166⟩ := pm_px (z := y) hpg (by omega) (by omega)
    have gtr : mm_t B 1000 1000 96 y t Sg := mj_t_m (Nat.le_refl _) (Nat.le_refl _) (Nat.le_refl _) (Nat.le_refl _) (mj_g_o og (fun a x _ _ _ _ q => by omega) (fun x _ _ q => by omega)) 96 y t ftr
    have g93 : Sg.1 135 93 = Int32.ofNat pn := by rw [← hSg, fr_ne (by omega)]; exact f93
    obtain ⟨gg, Si, gi, gl, ri⟩ := pm_any hB (by omega) (by omega) g93 (by omega) 96 0 (n + lf.length) y 96 t (0, fun _ => none) Sh lq sq rh.1 h165 h166 gtr hq (by omega) (by omega)
    have i76 : Si.1 135 76 = 0 := ri.1.2.1
    have pi : pw_o n (lf ++ lq) S Si := by
      have q1 : pw_o n lf S Sf := pw_cat p0 (pw_mp pf)
      have q2 := pw_cat q1 (pw_cat (pw_0 og pf.2.1) (pw_pm rh))
      rw [List.append_nil, List.append_nil] at q2
      exact pw_cat q2 (pw_pm ri)
    obtain ⟨Sj, fj, oj⟩ := mp_lay (x := 59) (n + (lf ++ lq).length) Si pi.2.1 (by rw [List.length_append]; show _ + 1 ≤ 40000; omega)
    have pj := pw_cat pi (pw_mp oj)
    obtain ⟨Sk, fk, ok⟩ := mp_lay (x := 10) (n + (lf ++ lq ++ [59]).length) Sj pj.2.1 (by rw [List.length_append, List.length_append]; show _ + 1 ≤ 40000; have : [(59 : Int32)].length = 1 := rfl; omega)
    have pk := pw_cat pj (pw_mp ok)
    refine ⟨Sk, ?_, by rw [el, ← List.append_assoc]; exact pk⟩
    have e80 : (80 : Int32) * Int32.ofNat B + Int32.ofNat c = Int32.ofNat (80 * B + c) := by rw [show (80 : Int32) = Int32.ofNat 80 from rfl, im_ma]
    have hleft := mo_left (p := 80 * B + c) (by omega) b1 b4 b5 b6 b2 b3
    have a18 : ∀ S, fn_Mo_eight 0 0 41 32 61 32 S = some (689978656, S) := fun S => by unfold fn_Mo_eight; congr 2
    have n88 : ¬(40000 : Int32) < Int32.ofNat n := fun q => by
      have := (im_lt (m := 40000) (n := n) (by omega) (by omega)).mp q
      omega
    rw [fn_Mo_print_32, h59, if_pos ((im_lt (by omega) (by omega)).mpr hc), h88, if_neg n88, h63, e80, hleft, wd_c_s, ← b7]
    simp only [wd_b]
    rw [hSa, fb, wd_d_s, fc, wd_d_s, fd, wd_d_s]
    have fe : fn_Mo_print_92 (fn_Mo_print_32 F) wd_F (Int32.ofNat c) (Int32.ofNat (80 * B + c)) 0 Sd = _ := fe
    rw [fe, fn_Mo_print_92, e93, if_neg Int32.lt_irrefl, a18, wd_c_s, ff, wd_d_s]
    simp only [wd_b]
    rw [hSg, if_neg (ms_in (show 80 * B + c < 160 by omega) (by decide)), im_t (show 80 * B + c < 2147483648 by omega), g162, fh, wd_d_s]
    have gw := gi (fn_Mo_print_32 F) (1000000 - gg) (Int32.ofNat c)
    rw [show 1000000 - gg + gg = wd_F by rw [show wd_F = 1000000 from rfl]; omega] at gw
    rw [gw, show 1000000 - gg = 999999 - gg + 1 by omega, fn_Mo_print_166, i76, if_neg (show ¬(0 : Int32) < 0 by decide), fj, wd_d_s, fk, wd_d_s, im_s]
/-- all versions -/
theorem pw_32 {F : Nat} : ∀ (q c n : Nat) (S : wd_S) (l : List Int32), c + q = ds.length → pw_P B ds S → S.1 135 88 = Int32.ofNat n → pr_vs c (ds.drop c) = some l → n + l.length ≤ 40000 → ∃ S', fn_Mo_print_32 (F + 1 + q) (Int32.ofNat c) S = fn_Mo_print_246 S' ∧ pw_o n l S S' := by
  intro q
  induction q with
  | zero =>
    intro c n S l hc hP h88 he hn
    rw [show c = ds.length by omega, List.drop_length] at he
    cases he
    refine ⟨S, ?_, pw_0 of_refl h88⟩
    rw [Nat.add_zero, fn_Mo_print_32, hP.2.2.1, show c = ds.length by omega, if_neg Int32.lt_irrefl]
  | succ q ih =>
    intro c n S l hc hP h88 he hn
    rw [List.drop_eq_getElem_cons (show c < ds.length by omega)] at he
    unfold pr_vs at he
    cases h1 : pr_v c ds[c].1 ds[c].2.1 with
    | none => rw [h1] at he; cases he
    | some la =>
      cases h2 : pr_vs (c + 1) (ds.drop (c + 1)) with
      | none => rw [h1, h2] at he; cases he
      | some lb =>
        rw [h1, h2] at he
        cases he
        rw [List.length_append] at hn
        obtain ⟨S1, f1, o1⟩ := pw_v (F := F + 1 + q) hP (by omega) h88 h1 (by omega)
        obtain ⟨S2, f2, o2⟩ := ih (c + 1) (n + la.length) S1 lb (by omega) (pw_o_P o1 hP) o1.2.1 h2 (by omega)
        refine ⟨S2, ?_, pw_cat o1 o2⟩
        show fn_Mo_print_32 (F + 1 + q + 1) (Int32.ofNat c) S = _
        rw [f1, f2]
/-- the copy -/
theorem pw_264 (h88 : S.1 135 88 = Int32.ofNat n) (hn : n ≤ 40000) : ∀ (q c F : Nat) (S1 : wd_S), c + q = n → of_f (fun a b => a = 175) S S1 → (∀ j, j < c → S1.1 175 j = S.1 176 j) → ∃ S', fn_Mo_print_264 (F + 1 + q) (Int32.ofNat c) S1 = some (Int32.ofNat n, S') ∧ of_f (fun a b => a = 175 ∨ (a = 135 ∧ b = 89)) S S' ∧ S'.1 135 89 = Int32.ofNat n ∧ ∀ j, j < n → S'.1 175 j = S.1 176 j := by
  intro q
  induction q with
  | zero =>
    intro c F S1 hc ho hb
    have e88 : S1.1 135 88 = Int32.ofNat n := by rw [ho.1 135 88 (by omega)]; exact h88
    refine ⟨wd_i S1 135 89 (Int32.ofNat n), ?_, of_i (by omega) (of_mono (fun a b q => by omega) ho), fr_eq, fun j hj => by rw [fr_ne (by omega)]; exact hb j (by omega)⟩
    rw [Nat.add_zero, fn_Mo_print_264, e88, show c = n by omega, if_neg Int32.lt_irrefl]
    simp only [wd_b]
    rw [fr_eq]
  | succ q ih =>
    intro c F S1 hc ho hb
    have e88 : S1.1 135 88 = Int32.ofNat n := by rw [ho.1 135 88 (by omega)]; exact h88
    obtain ⟨S2, f2, r2⟩ := ih (c + 1) F (wd_i S1 175 c (S1.1 176 c)) (by omega) (of_i (by omega) ho) (fun j hj => by
      by_cases e : j = c
      · rw [e, fr_eq, ho.1 176 c (by omega)]
      · rw [fr_ne (by omega)]
        exact hb j (by omega))
    refine ⟨S2, ?_, r2⟩
    show fn_Mo_print_264 (F + 1 + q + 1) (Int32.ofNat c) S1 = _
    rw [fn_Mo_print_264, e88, if_pos ((im_lt (by omega) (by omega)).mpr (by omega)), if_neg (ms_in (show c < 40000 by omega) (by decide)), if_neg (ms_in (show c < 40000 by omega) (by decide)), im_t (show c < 2147483648 by omega), im_s]
    exact f2
theorem mo_print_x (h59 : S.1 135 59 = 0) : fn_Mo_print S = some (0, wd_i S 135 0 1) := by
  unfold fn_Mo_print fn_Mo_print_13
  simp only [wd_b]
  rw [if_pos h59, fr_eq, if_pos (show (0 : Int32) < 1 by decide)]
def pw_W (a b : Nat) : Prop := (a = 135 ∧ (b = 0 ∨ b = 76 ∨ b = 88 ∨ b = 89 ∨ b = 92 ∨ b = 93)) ∨ a = 165 ∨ a = 166 ∨ (175 ≤ a ∧ a ≤ 178)
theorem mo_print (hP : pw_P B ds S) (hd : 1 ≤ ds.length) (he : pr_vs 0 ds = some l) (hn : l.length ≤ 40000) : ∃ S', fn_Mo_print S = some (Int32.ofNat l.length, S') ∧ S'.1 135 0 = 0 ∧ S'.1 135 89 = Int32.ofNat l.length ∧ (∀ j, (hj : j < l.length) → S'.1 175 j = l[j]) ∧ of_f pw_W S S' := by
  have hd2 := hP.2.2.2.1
  have o0 : of_f (fun a b => a = 135 ∧ (b = 0 ∨ b = 88)) S (wd_i (wd_i S 135 0 0) 135 88 0) := of_i (by omega) (of_i (by omega) of_refl)
  generalize hSa : wd_i (wd_i S 135 0 0) 135 88 0 = Sa at o0
  have a88 : Sa.1 135 88 = Int32.ofNat 0 := by rw [← hSa, fr_eq]; rfl
  obtain ⟨Sb, fb, ob⟩ := pw_32 (F := 999999 - ds.length) ds.length 0 0 Sa l (by omega) (pw_P_o (of_mono (fun a b q => by omega) o0) hP) a88 he (by omega)
  rw [show 999999 - ds.length + 1 + ds.length = wd_F by rw [show wd_F = 1000000 from rfl]; omega] at fb
  have b88 : Sb.1 135 88 = Int32.ofNat l.length := by rw [ob.2.1, Nat.zero_add]
  obtain ⟨Sc, fc, oc, c89, cb⟩ := pw_264 b88 hn l.length 0 (999999 - l.length) Sb (by omega) of_refl (fun j hj => absurd hj (Nat.not_lt_zero _))
  rw [show 999999 - l.length + 1 + l.length = wd_F by rw [show wd_F = 1000000 from rfl]; omega] at fc
  have b0 : Sb.1 135 0 = 0 := by rw [ob.1.1 135 0 (by omega), ← hSa, fr_ne (by omega), fr_eq]
  refine ⟨Sc, ?_, by rw [oc.1 135 0 (by omega)]; exact b0, c89, fun j hj => ?_, of_trans (of_mono (fun a b q => by unfold pw_W; omega) o0) (of_trans (of_mono (fun a b q => by unfold pw_W; omega) ob.1) (of_mono (fun a b q => by unfold pw_W; omega) oc))⟩
  · unfold fn_Mo_print fn_Mo_print_13
    simp only [wd_b]
    rw [hP.2.2.1, if_neg (show ¬Int32.ofNat ds.length = 0 from fun q => by have := (im_eq (m := ds.length) (n := 0) (by omega) (by omega)).mp q; omega), fr_eq, if_neg (show ¬(0 : Int32) < 0 by decide), hSa]
    have fb : fn_Mo_print_32 wd_F 0 Sa = fn_Mo_print_246 Sb := fb
    have fc : fn_Mo_print_264 wd_F 0 Sb = _ := fc
    rw [fb]
    unfold fn_Mo_print_246
    rw [b88, if_neg (show ¬(40000 : Int32) < Int32.ofNat l.length from fun q => by have := (im_lt (m := 40000) (n := l.length) (by omega) (by omega)).mp q; omega), fc]
  · have := ob.2.2 j hj
    rw [Nat.zero_add] at this
    rw [cb j hj, this]
end Mp6
