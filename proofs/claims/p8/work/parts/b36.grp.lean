/-! part b36 -/
section
/-! The reference's print(). -/
def pw_P (B : Nat) (ds : pg_T) (S : wd_S) : Prop := B ≤ 1 ∧ S.1 135 63 = Int32.ofNat B ∧ S.1 135 59 = Int32.ofNat ds.length ∧ ds.length ≤ 78 ∧ ∀ j, (hj : j < ds.length) → ds[j].1 ≤ 4 ∧ (∃ g m n, g < 96 ∧ n ≤ 4 ∧ m < 2 ^ n ∧ S.1 159 (80 * B + j) = Int32.ofNat g ∧ S.1 160 (80 * B + j) = Int32.ofNat m ∧ S.1 138 g = Int32.ofNat n ∧ ds[j].1 = mk_lf m n) ∧ ∃ y, S.1 162 (80 * B + j) = Int32.ofNat y ∧ mm_t B 1000 1000 96 y ds[j].2.1 S
section Mp6
variable {B pn k n m k' y z d r j g lo hi al ah i X a c : Nat} {l l0 l1 l2 : List Int32} {S0 S S' S1 S2 : wd_S} {t : tr_T} {s s' s0 s1 : pr_S} {x v : Int32} {e : Int64} {ds : pg_T} {kk : Int32 → wd_S → Option (Int32 × wd_S)}
theorem pw_P_o (ho : of_f (fun a b => (a = 135 ∧ ¬b = 63 ∧ ¬b = 59) ∨ 165 ≤ a) S S') (h : pw_P B ds S) : pw_P B ds S' := by
  obtain ⟨h1, h2, h3, h4, h5⟩ := h
  refine ⟨h1, by rw [ho.1 135 63 (by omega)]; exact h2, by rw [ho.1 135 59 (by omega)]; exact h3, h4, fun j hj => ?_⟩
  obtain ⟨a1, ⟨g, m, n, b1, b2, b3, b4, b5, b6, b7⟩, y, c1, c2⟩ := h5 j hj
  refine ⟨a1, ⟨g, m, n, b1, b2, b3, by rw [ho.1 159 _ (by omega)]; exact b4, by rw [ho.1 160 _ (by omega)]; exact b5, by rw [ho.1 138 _ (by omega)]; exact b6, b7⟩, y, by rw [ho.1 162 _ (by omega)]; exact c1, ?_⟩
  exact mj_t_m (Nat.le_refl _) (Nat.le_refl _) (Nat.le_refl _) (Nat.le_refl _) (mj_g_o ho (fun a x _ _ _ _ q => by omega) (fun x _ _ q => by omega)) 96 y ds[j].2.1 c2
theorem pw_o_P (ho : pw_o n l S S') (h : pw_P B ds S) : pw_P B ds S' := pw_P_o (of_mono (fun a b q => by omega) ho.1) h
/-- a version -/
theorem pw_v (hP : pw_P B ds S) (hc : c < ds.length) (h88 : S.1 135 88 = Int32.ofNat n) (he : pr_v c ds[c].1 ds[c].2.1 = some l) (hn : n + l.length ≤ 40000) {F : Nat} : ∃ S', fn_Mo_print_32 (F + 1) (Int32.ofNat c) S = fn_Mo_print_32 F (Int32.ofNat (c + 1)) S' ∧ pw_o n l S S' := by
  obtain ⟨hB, h63, h59, hd, hv⟩ := hP
  obtain ⟨a1, ⟨g, m, np, b1, b2, b3, b4, b5, b6, b7⟩, y, c1, c2⟩ := hv c hc
  unfold pr_v at he
  generalize hpn : ds[c].1 = pn at he a1 b7
  generalize ht : ds[c].2.1 = t at he c2
  cases hq : pr pn 96 (0, fun _ => none) t with
  | none => rw [hq] at he; cases he
  | some q =>
    rw [hq] at he
    obtain ⟨lq, sq⟩ := q
    have he : l = 118 :: pr_n c ++ 40 :: pr_ps pn 0 ++ pr_x 18 ++ lq ++ pr_x 19 := by cases he; rfl
    have x18 : pr_8 689978656 = pr_x 18 := by decide +kernel
    have x19 : pr_x 19 = [59, 10] := by decide +kernel
    have el : l = ((((([118] ++ pr_n c) ++ [40]) ++ pr_ps pn 0) ++ pr_x 18) ++ lq) ++ ([59] ++ [10]) := by
      rw [he, x19]
      simp only [List.append_assoc, List.cons_append, List.nil_append]
    have hl : l.length = 1 + (pr_n c).length + 1 + (pr_ps pn 0).length + (pr_x 18).length + lq.length + 2 := by
      rw [el, List.length_append, List.length_append, List.length_append, List.length_append, List.length_append, List.length_append]
      rfl
    have o0 : of_f (fun a b => (a = 135 ∧ (b = 76 ∨ b = 92 ∨ b = 93)) ∨ a = 165 ∨ a = 166) S (wd_i (wd_i S 135 93 (Int32.ofNat pn)) 135 92 0) := of_i (by omega) (of_i (by omega) of_refl)
    generalize hSa : wd_i (wd_i S 135 93 (Int32.ofNat pn)) 135 92 0 = Sa at o0
    have p0 := pw_0 o0 h88
    have a93 : Sa.1 135 93 = Int32.ofNat pn := by rw [← hSa, fr_ne (by omega), fr_eq]
    have a92 : Sa.1 135 92 = 0 := by rw [← hSa, fr_eq]
    obtain ⟨Sb, fb, ob⟩ := mp_lay (x := 118) n Sa p0.2.1 (by show n + 1 ≤ 40000; omega)
    have lb : [(118 : Int32)].length = 1 := rfl
    obtain ⟨Sc, fc, oc⟩ := mp_num (m := c) (by omega) (n + [(118 : Int32)].length) Sb ob.2.1 (by rw [lb]; omega)
    have pc := mp_cat ob oc
    have lc : ([(118 : Int32)] ++ pr_n c).length = 1 + (pr_n c).length := by rw [List.length_append]; rfl
    obtain ⟨Sd, fd, od⟩ := mp_lay (x := 40) (n + ([(118 : Int32)] ++ pr_n c).length) Sc pc.2.1 (by show n + ([(118 : Int32)] ++ pr_n c).length + 1 ≤ 40000; rw [lc]; omega)
    have pd := mp_cat pc od
    have ld : ([(118 : Int32)] ++ pr_n c ++ [40]).length = 1 + (pr_n c).length + 1 := by rw [List.length_append, lc]; rfl
    obtain ⟨Se, fe, oe⟩ := pw_92 (kk := fn_Mo_print_32 F) (l1 := Int32.ofNat c) (l2 := Int32.ofNat (80 * B + c)) a1 pn 0 (999999 - pn) (n + ([(118 : Int32)] ++ pr_n c ++ [40]).length) Sd (by omega) (by rw [pd.1.1 135 93 (by omega)]; exact a93) pd.2.1 (by rw [ld]; omega)
    rw [show 999999 - pn + 1 + pn = wd_F by rw [show wd_F = 1000000 from rfl]; omega] at fe
    have pe := mp_cat pd oe
    have le : ([(118 : Int32)] ++ pr_n c ++ [40] ++ pr_ps pn 0).length = 1 + (pr_n c).length + 1 + (pr_ps pn 0).length := by rw [List.length_append, ld]
    obtain ⟨Sf, ff, of⟩ := mp_all (e := 689978656) (n + ([(118 : Int32)] ++ pr_n c ++ [40] ++ pr_ps pn 0).length) Se pe.2.1 (by rw [x18, le]; omega)
    rw [x18] at of
    have pf := mp_cat pe of
    have e93 : Se.1 135 93 = Int32.ofNat pn := by rw [pe.1.1 135 93 (by omega)]; exact a93
    generalize hlf : [(118 : Int32)] ++ pr_n c ++ [40] ++ pr_ps pn 0 ++ pr_x 18 = lf at pf el
    have llf : lf.length = 1 + (pr_n c).length + 1 + (pr_ps pn 0).length + (pr_x 18).length := by rw [← hlf, List.length_append, le]
    have f93 : Sf.1 135 93 = Int32.ofNat pn := by rw [pf.1.1 135 93 (by omega)]; exact a93
    have f92 : Sf.1 135 92 = 0 := by rw [pf.1.1 135 92 (by omega)]; exact a92
    have osf : of_f (fun a b => (a = 135 ∧ ¬b = 63 ∧ ¬b = 59) ∨ 165 ≤ a) S Sf := of_trans (of_mono (fun a b q => by omega) o0) (of_mono (fun a b q => by omega) pf.1)
    have f162 : Sf.1 162 (80 * B + c) = Int32.ofNat y := by rw [osf.1 162 _ (by omega)]; exact c1
    have ftr : mm_t B 1000 1000 96 y t Sf := mj_t_m (Nat.le_refl _) (Nat.le_refl _) (Nat.le_refl _) (Nat.le_refl _) (mj_g_o osf (fun a x _ _ _ _ q => by omega) (fun x _ _ q => by omega)) 96 y t c2
    generalize hSg : wd_i Sf 135 76 0 = Sg
    have og : of_f (fun a b => (a = 135 ∧ (b = 76 ∨ b = 92 ∨ b = 93)) ∨ a = 165 ∨ a = 166) Sf Sg := by rw [← hSg]; exact of_i (by omega) of_refl
    have g76 : Sg.1 135 76 = Int32.ofNat 0 := by rw [← hSg, fr_eq]; rfl
    have g162 : Sg.1 162 (80 * B + c) = Int32.ofNat y := by rw [og.1 162 _ (by omega)]; exact f162
    have hpg : pm_h Sg pn 0 (n + lf.length) (0, fun _ => none) Sg := ⟨of_refl, g76, by rw [og.1 135 88 (by omega)]; exact pf.2.1, by rw [← hSg, fr_ne (by omega)]; exact f92, Nat.zero_le _, fun i j q => by cases q⟩
    obtain ⟨Sh, fh, rh, h165, h166⟩ := pm_px (z := y) hpg (by omega) (by omega)
    have gtr : mm_t B 1000 1000 96 y t Sg := mj_t_m (Nat.le_refl _) (Nat.le_refl _) (Nat.le_refl _) (Nat.le_refl _) (mj_g_o og (fun a x _ _ _ _ q => by omega) (fun x _ _ q => by omega)) 96 y t ftr
    have g93 : Sg.1 135 93 = Int32.ofNat pn := by rw [← hSg, fr_ne (by omega)]; exact f93
    obtain ⟨gg, Si, gi, gl, ri⟩ := pm_any hB (by omega) (by omega) g93 (by omega) 96 0 (n + lf.length) y 96 t (0, fun _ => none) Sh lq sq rh.1 h165 h166 gtr hq (by omega) (by omega)
    have i76 : Si.1 135 76 = 0 := ri.1.2.1
    have pi : pw_o n (lf ++ lq) S Si := by
      have q1 : pw_o n lf S Sf := pw_cat p0 (pw_mp pf)
      have q2 := pw_cat q1 (pw_cat (pw_0 og pf.2.1) (pw_pm rh))
      rw [List.append_nil, List.append_nil] at q2
      exact pw_cat q2 (pw_pm ri)
    obtain ⟨Sj, fj, oj⟩ := mp_lay (x := 59) (n + (lf ++ lq).length) Si pi.2.1 (by rw [List.length_append]; show _ + 1 ≤ 40000; omega)
    have pj := pw_cat pi (pw_mp oj)
    obtain ⟨Sk, fk, ok⟩ := mp_lay (x := 10) (n + (lf ++ lq ++ [59]).length) Sj pj.2.1 (by rw [List.length_append, List.length_append]; show _ + 1 ≤ 40000; have : [(59 : Int32)].length = 1 := rfl; omega)
    have pk := pw_cat pj (pw_mp ok)
    refine ⟨Sk, ?_, by rw [el, ← List.append_assoc]; exact pk⟩
    have e80 : (80 : Int32) * Int32.ofNat B + Int32.ofNat c = Int32.ofNat (80 * B + c) := by rw [show (80 : Int32) = Int32.ofNat 80 from rfl, im_ma]
    have hleft := mo_left (p := 80 * B + c) (by omega) b1 b4 b5 b6 b2 b3
    have a18 : ∀ S, fn_Mo_eight 0 0 41 32 61 32 S = some (689978656, S) := fun S => by unfold fn_Mo_eight; congr 2
    have n88 : ¬(40000 : Int32) < Int32.ofNat n := fun q => by
      have := (im_lt (m := 40000) (n := n) (by omega) (by omega)).mp q
      omega
    rw [fn_Mo_print_32, h59, if_pos ((im_lt (by omega) (by omega)).mpr hc), h88, if_neg n88, h63, e80, hleft, wd_c_s, ← b7]
    simp only [wd_b]
    rw [hSa, fb, wd_d_s, fc, wd_d_s, fd, wd_d_s]
    have fe : fn_Mo_print_92 (fn_Mo_print_32 F) wd_F (Int32.ofNat c) (Int32.ofNat (80 * B + c)) 0 Sd = _ := fe
    rw [fe, fn_Mo_print_92, e93, if_neg Int32.lt_irrefl, a18, wd_c_s, ff, wd_d_s]
    simp only [wd_b]
    rw [hSg, if_neg (ms_in (show 80 * B + c < 160 by omega) (by decide)), im_t (show 80 * B + c < 2147483648 by omega), g162, fh, wd_d_s]
    have gw := gi (fn_Mo_print_32 F) (1000000 - gg) (Int32.ofNat c)
    rw [show 1000000 - gg + gg = wd_F by rw [show wd_F = 1000000 from rfl]; omega] at gw
    rw [gw, show 1000000 - gg = 999999 - gg + 1 by omega, fn_Mo_print_166, i76, if_neg (show ¬(0 : Int32) < 0 by decide), fj, wd_d_s, fk, wd_d_s, im_s]
/-- all versions -/
theorem pw_32 {F : Nat} : ∀ (q c n : Nat) (S : wd_S) (l : List Int32), c + q = ds.length → pw_P B ds S → S.1 135 88 = Int32.ofNat n → pr_vs c (ds.drop c) = some l → n + l.length ≤ 40000 → ∃ S', fn_Mo_print_32 (F + 1 + q) (Int32.ofNat c) S = fn_Mo_print_246 S' ∧ pw_o n l S S' := by
  intro q
  induction q with
  | zero =>
    intro c n S l hc hP h88 he hn
    rw [show c = ds.length by omega, List.drop_length] at he
    cases he
    refine ⟨S, ?_, pw_0 of_refl h88⟩
    rw [Nat.add_zero, fn_Mo_print_32, hP.2.2.1, show c = ds.length by omega, if_neg Int32.lt_irrefl]
  | succ q ih =>
    intro c n S l hc hP h88 he hn
    rw [List.drop_eq_getElem_cons (show c < ds.length by omega)] at he
    unfold pr_vs at he
    cases h1 : pr_v c ds[c].1 ds[c].2.1 with
    | none => rw [h1] at he; cases he
    | some la =>
      cases h2 : pr_vs (c + 1) (ds.drop (c + 1)) with
      | none => rw [h1, h2] at he; cases he
      | some lb =>
        rw [h1, h2] at he
        cases he
        rw [List.length_append] at hn
        obtain ⟨S1, f1, o1⟩ := pw_v (F := F + 1 + q) hP (by omega) h88 h1 (by omega)
        obtain ⟨S2, f2, o2⟩ := ih (c + 1) (n + la.length) S1 lb (by omega) (pw_o_P o1 hP) o1.2.1 h2 (by omega)
        refine ⟨S2, ?_, pw_cat o1 o2⟩
        show fn_Mo_print_32 (F + 1 + q + 1) (Int32.ofNat c) S = _
        rw [f1, f2]
/-- the copy -/
theorem pw_264 (h88 : S.1 135 88 = Int32.ofNat n) (hn : n ≤ 40000) : ∀ (q c F : Nat) (S1 : wd_S), c + q = n → of_f (fun a b => a = 175) S S1 → (∀ j, j < c → S1.1 175 j = S.1 176 j) → ∃ S', fn_Mo_print_264 (F + 1 + q) (Int32.ofNat c) S1 = some (Int32.ofNat n, S') ∧ of_f (fun a b => a = 175 ∨ (a = 135 ∧ b = 89)) S S' ∧ S'.1 135 89 = Int32.ofNat n ∧ ∀ j, j < n → S'.1 175 j = S.1 176 j := by
  intro q
  induction q with
  | zero =>
    intro c F S1 hc ho hb
    have e88 : S1.1 135 88 = Int32.ofNat n := by rw [ho.1 135 88 (by omega)]; exact h88
    refine ⟨wd_i S1 135 89 (Int32.ofNat n), ?_, of_i (by omega) (of_mono (fun a b q => by omega) ho), fr_eq, fun j hj => by rw [fr_ne (by omega)]; exact hb j (by omega)⟩
    rw [Nat.add_zero, fn_Mo_print_264, e88, show c = n by omega, if_neg Int32.lt_irrefl]
    simp only [wd_b]
    rw [fr_eq]
  | succ q ih =>
    intro c F S1 hc ho hb
    have e88 : S1.1 135 88 = Int32.ofNat n := by rw [ho.1 135 88 (by omega)]; exact h88
    obtain ⟨S2, f2, r2⟩ := ih (c + 1) F (wd_i S1 175 c (S1.1 176 c)) (by omega) (of_i (by omega) ho) (fun j hj => by
      by_cases e : j = c
      · rw [e, fr_eq, ho.1 176 c (by omega)]
      · rw [fr_ne (by omega)]
        exact hb j (by omega))
    refine ⟨S2, ?_, r2⟩
    show fn_Mo_print_264 (F + 1 + q + 1) (Int32.ofNat c) S1 = _
    rw [fn_Mo_print_264, e88, if_pos ((im_lt (by omega) (by omega)).mpr (by omega)), if_neg (ms_in (show c < 40000 by omega) (by decide)), if_neg (ms_in (show c < 40000 by omega) (by decide)), im_t (show c < 2147483648 by omega), im_s]
    exact f2
theorem mo_print_x (h59 : S.1 135 59 = 0) : fn_Mo_print S = some (0, wd_i S 135 0 1) := by
  unfold fn_Mo_print fn_Mo_print_13
  simp only [wd_b]
  rw [if_pos h59, fr_eq, if_pos (show (0 : Int32) < 1 by decide)]
def pw_W (a b : Nat) : Prop := (a = 135 ∧ (b = 0 ∨ b = 76 ∨ b = 88 ∨ b = 89 ∨ b = 92 ∨ b = 93)) ∨ a = 165 ∨ a = 166 ∨ (175 ≤ a ∧ a ≤ 178)
theorem mo_print (hP : pw_P B ds S) (hd : 1 ≤ ds.length) (he : pr_vs 0 ds = some l) (hn : l.length ≤ 40000) : ∃ S', fn_Mo_print S = some (Int32.ofNat l.length, S') ∧ S'.1 135 0 = 0 ∧ S'.1 135 89 = Int32.ofNat l.length ∧ (∀ j, (hj : j < l.length) → S'.1 175 j = l[j]) ∧ of_f pw_W S S' := by
  have hd2 := hP.2.2.2.1
  have o0 : of_f (fun a b => a = 135 ∧ (b = 0 ∨ b = 88)) S (wd_i (wd_i S 135 0 0) 135 88 0) := of_i (by omega) (of_i (by omega) of_refl)
  generalize hSa : wd_i (wd_i S 135 0 0) 135 88 0 = Sa at o0
  have a88 : Sa.1 135 88 = Int32.ofNat 0 := by rw [← hSa, fr_eq]; rfl
  obtain ⟨Sb, fb, ob⟩ := pw_32 (F := 999999 - ds.length) ds.length 0 0 Sa l (by omega) (pw_P_o (of_mono (fun a b q => by omega) o0) hP) a88 he (by omega)
  rw [show 999999 - ds.length + 1 + ds.length = wd_F by rw [show wd_F = 1000000 from rfl]; omega] at fb
  have b88 : Sb.1 135 88 = Int32.ofNat l.length := by rw [ob.2.1, Nat.zero_add]
  obtain ⟨Sc, fc, oc, c89, cb⟩ := pw_264 b88 hn l.length 0 (999999 - l.length) Sb (by omega) of_refl (fun j hj => absurd hj (Nat.not_lt_zero _))
  rw [show 999999 - l.length + 1 + l.length = wd_F by rw [show wd_F = 1000000 from rfl]; omega] at fc
  have b0 : Sb.1 135 0 = 0 := by rw [ob.1.1 135 0 (by omega), ← hSa, fr_ne (by omega), fr_eq]
  refine ⟨Sc, ?_, by rw [oc.1 135 0 (by omega)]; exact b0, c89, fun j hj => ?_, of_trans (of_mono (fun a b q => by unfold pw_W; omega) o0) (of_trans (of_mono (fun a b q => by unfold pw_W; omega) ob.1) (of_mono (fun a b q => by unfold pw_W; omega) oc))⟩
  · unfold fn_Mo_print fn_Mo_print_13
    simp only [wd_b]
    rw [hP.2.2.1, if_neg (show ¬Int32.ofNat ds.length = 0 from fun q => by have := (im_eq (m := ds.length) (n := 0) (by omega) (by omega)).mp q; omega), fr_eq, if_neg (show ¬(0 : Int32) < 0 by decide), hSa]
    have fb : fn_Mo_print_32 wd_F 0 Sa = fn_Mo_print_246 Sb := fb
    have fc : fn_Mo_print_264 wd_F 0 Sb = _ := fc
    rw [fb]
    unfold fn_Mo_print_246
    rw [b88, if_neg (show ¬(40000 : Int32) < Int32.ofNat l.length from fun q => by have := (im_lt (m := 40000) (n := l.length) (by omega) (by omega)).mp q; omega), fc]
  · have := ob.2.2 j hj
    rw [Nat.zero_add] at this
    rw [cb j hj, this]
end Mp6
end
/-! part b37 -/
section
/-! Trees as they should be: names in scope, slots fresh, calls with as many arguments as wanted. -/
def gd {ε α : Type} (Q : α → Prop) (x : Except (Option ε) α) : Prop := match x with
  | .ok a => Q a
  | .error none => False
  | .error (some _) => True
theorem gd_ev {α β : Type} {Q : α → Prop} {Q' : β → Prop} {x : Except ev_E α} {f : α → Except ev_E β} (h : gd Q x) (hf : ∀ a, Q a → gd Q' (f a)) : gd Q' (ev_b x f) := by
  cases x with
  | ok a => exact hf a h
  | error e =>
    cases e with
    | none => exact h.elim
    | some u => trivial
theorem gd_mk {α β : Type} {Q : α → Prop} {Q' : β → Prop} {x : Except mk_E α} {f : α → Except mk_E β} (h : gd Q x) (hf : ∀ a, Q a → gd Q' (f a)) : gd Q' (mk_b x f) := by
  cases x with
  | ok a => exact hf a h
  | error e =>
    cases e with
    | none => exact h.elim
    | some u => trivial
theorem gd_m {ε α : Type} {Q Q' : α → Prop} {x : Except (Option ε) α} (h : gd Q x) (hq : ∀ a, Q a → Q' a) : gd Q' x := by
  cases x with
  | ok a => exact hq a h
  | error e =>
    cases e with
    | none => exact h.elim
    | some u => trivial
def wf_b (fr : Prop) (l : Nat) (ar : Nat → Nat) (R : (Nat → Prop) → tr_T → Prop) (B : Nat → Prop) (t : tr_T) : Prop := tr_k t = 1 ∨ (tr_k t = 2 ∧ tr_v t = Int32.ofNat (tr_n t) ∧ tr_n t < 16 ∧ B (tr_n t)) ∨ (tr_k t = 3 ∧ tr_v t = Int32.ofNat (tr_n t) ∧ tr_n t < 16 ∧ tr_a t = 2 ∧ (fr → ¬B (tr_n t)) ∧ R B (tr_sub t 0) ∧ R (fun s => B s ∨ s = tr_n t) (tr_sub t 1)) ∨ (tr_k t = 4 ∧ tr_a t = 3 ∧ R B (tr_sub t 0) ∧ R B (tr_sub t 1) ∧ R B (tr_sub t 2)) ∨ (tr_k t = 5 ∧ tr_a t ≤ 4 ∧ tr_v t = Int32.ofNat (tr_n t) ∧ tr_n t < l ∧ tr_a t = ar (tr_n t) ∧ ∀ j, j < tr_a t → R B (tr_sub t j)) ∨ ((tr_k t = 6 ∨ tr_k t = 7 ∨ tr_k t = 8 ∨ tr_k t = 9 ∨ tr_k t = 10) ∧ tr_a t = 2 ∧ R B (tr_sub t 0) ∧ R B (tr_sub t 1))
def wf_t (fr : Prop) (l : Nat) (ar : Nat → Nat) : Nat → (Nat → Prop) → tr_T → Prop
  | 0 => fun _ _ => False
  | d + 1 => fun B t => wf_b fr l ar (wf_t fr l ar d) B t
section Wf
variable {fr fr' : Prop} {l l' : Nat} {ar ar' : Nat → Nat} {B : Nat → Prop} {t : tr_T} {P : List tr_T} {lim : Nat}
theorem wf_b_m {R R' : (Nat → Prop) → tr_T → Prop} (hf : fr' → fr) (hR : ∀ B t, R B t → R' B t) (hl : l ≤ l') (ha : ∀ f, f < l → ar' f = ar f) (h : wf_b fr l ar R B t) : wf_b fr' l' ar' R' B t := by
  rcases h with h | h | ⟨a1, a2, a3, a4, a5, a6, a7⟩ | ⟨a1, a2, a3, a4, a5⟩ | ⟨a1, a2, a3, a4, a5, a6⟩ | ⟨a1, a2, a3, a4⟩
  · exact Or.inl h
  · exact Or.inr (Or.inl h)
  · exact Or.inr (Or.inr (Or.inl ⟨a1, a2, a3, a4, fun q => a5 (hf q), hR _ _ a6, hR _ _ a7⟩))
  · exact Or.inr (Or.inr (Or.inr (Or.inl ⟨a1, a2, hR _ _ a3, hR _ _ a4, hR _ _ a5⟩)))
  · exact Or.inr (Or.inr (Or.inr (Or.inr (Or.inl ⟨a1, a2, a3, by omega, by rw [ha _ a4]; exact a5, fun j hj => hR _ _ (a6 j hj)⟩))))
  · exact Or.inr (Or.inr (Or.inr (Or.inr (Or.inr ⟨a1, a2, hR _ _ a3, hR _ _ a4⟩))))
theorem wf_t_m (hf : fr' → fr) (hl : l ≤ l') (ha : ∀ f, f < l → ar' f = ar f) : ∀ (d : Nat) (B : Nat → Prop) (t : tr_T), wf_t fr l ar d B t → wf_t fr' l' ar' d B t := by
  intro d
  induction d with
  | zero => intro B t h; exact h
  | succ d ih => intro B t h; exact wf_b_m hf ih hl ha h
theorem wf_t_s : ∀ (d : Nat) (B : Nat → Prop) (t : tr_T), wf_t fr l ar d B t → wf_t fr l ar (d + 1) B t := by
  intro d
  induction d with
  | zero => intro B t h; exact h.elim
  | succ d ih => intro B t h; exact wf_b_m id ih (Nat.le_refl _) (fun _ _ => rfl) h
theorem wf_t_le {d e : Nat} (h : wf_t fr l ar d B t) (hde : d ≤ e) : wf_t fr l ar e B t := by
  induction hde with
  | refl => exact h
  | step _ ih => exact wf_t_s _ _ _ ih
theorem wf_ok {R : (Nat → Prop) → tr_T → Prop} (h : wf_b fr l ar R B t) : ev_ok l t := by
  rcases h with h | ⟨a1, a2, a3, -⟩ | ⟨a1, a2, a3, a4, -⟩ | ⟨a1, a2, -⟩ | ⟨a1, a2, a3, a4, -⟩ | ⟨a1, a2, -⟩
  · exact Or.inl h
  · exact Or.inr (Or.inl ⟨a1, a2, a3⟩)
  · exact Or.inr (Or.inr (Or.inl ⟨a1, a2, a3, a4⟩))
  · exact Or.inr (Or.inr (Or.inr (Or.inl ⟨a1, a2⟩)))
  · exact Or.inr (Or.inr (Or.inr (Or.inr (Or.inl ⟨a1, a2, a3, a4⟩))))
  · exact Or.inr (Or.inr (Or.inr (Or.inr (Or.inr ⟨a1, a2⟩))))
/-- V has all of B -/
def wf_V (B : Nat → Prop) (V : ev_V) : Prop := ∀ i, B i → ∃ v, V i = some v
def wf_g (V W : ev_V) : Prop := ∀ i v, V i = some v → ∃ w, W i = some w
theorem wf_V_g {V W : ev_V} (h : wf_V B V) (g : wf_g V W) : wf_V B W := fun i hi => by
  obtain ⟨v, hv⟩ := h i hi
  exact g i v hv
theorem wf_g_t {V W X : ev_V} (h : wf_g V W) (g : wf_g W X) : wf_g V X := fun i v hv => by
  obtain ⟨w, hw⟩ := h i v hv
  exact g i w hw
theorem wf_g_u {V : ev_V} {s : Nat} {x : Int32} : wf_g V (ev_u V s x) := fun i v hv => by
  unfold ev_u
  by_cases e : i = s
  · exact ⟨x, by rw [if_pos e]⟩
  · exact ⟨v, by rw [if_neg e]; exact hv⟩
theorem ev_args_nn {self : ev_P} : ∀ (r j : Nat) (V : ev_V) (s m : Nat), (∀ i, i < j + r → ∀ V s m, wf_V B V → gd (fun q => wf_g V q.2.1) (self V s m (tr_sub t i))) → wf_V B V → gd (fun q => q.1.length = r ∧ wf_g V q.2.1) (ev_args self t r j V s m) := by
  intro r
  induction r with
  | zero => intro j V s m _ _; exact ⟨rfl, fun i v h => ⟨v, h⟩⟩
  | succ r ih =>
    intro j V s m hs hV
    refine gd_ev (hs j (by omega) V s m hV) (fun q hq => ?_)
    refine gd_ev (ih (j + 1) q.2.1 q.2.2.1 q.2.2.2 (fun i hi => hs i (by omega)) (wf_V_g hV hq)) (fun w hw => ?_)
    exact ⟨by show w.1.length + 1 = r + 1; rw [hw.1], wf_g_t hq hw.2⟩
/-- a run of trees as they should be never comes to nothing -/
theorem ev_nn (hP : ∀ f, f < P.length → ∃ d, wf_t fr P.length ar d (fun s => s < ar f) (P.getD f tr_z)) : ∀ (r d : Nat) (B : Nat → Prop) (V : ev_V) (s m : Nat) (t : tr_T), wf_t fr P.length ar d B t → wf_V B V → gd (fun q => wf_g V q.2.1) (ev P lim r V s m t) := by
  intro r
  induction r with
  | zero =>
    intro d B V s m t _ _
    unfold ev
    split <;> trivial
  | succ r ih =>
    intro d B V s m t ht hV
    unfold ev
    split
    · trivial
    · cases d with
      | zero => exact ht.elim
      | succ d =>
        have ht : wf_b fr P.length ar (wf_t fr P.length ar d) B t := ht
        unfold ev_in
        rw [if_pos (wf_ok ht)]
        rcases ht with h | ⟨a1, a2, a3, a4⟩ | ⟨a1, a2, a3, a4, a5, a6, a7⟩ | ⟨a1, a2, a3, a4, a5⟩ | ⟨a1, a2, a3, a4, a5, a6⟩ | ⟨a1, a2, a3, a4⟩
        · rw [if_pos h]
          exact fun i v h => ⟨v, h⟩
        · rw [a1, if_neg (show ¬(2 : Int32) = 1 by decide), if_pos rfl]
          obtain ⟨v, hv⟩ := hV _ a4
          rw [hv]
          exact fun i v h => ⟨v, h⟩
        · rw [a1, if_neg (show ¬(3 : Int32) = 1 by decide), if_neg (show ¬(3 : Int32) = 2 by decide), if_pos rfl]
          refine gd_ev (ih d B V _ _ _ a6 hV) (fun q hq => ?_)
          refine gd_m (ih d _ (ev_u q.2.1 (tr_n t) q.1) _ _ _ a7 (fun i hi => ?_)) (fun w hw => wf_g_t hq (wf_g_t wf_g_u hw))
          rcases hi with hi | hi
          · exact wf_V_g (wf_V_g hV hq) wf_g_u i hi
          · exact ⟨q.1, by unfold ev_u; rw [if_pos hi]⟩
        · rw [a1, if_neg (show ¬(4 : Int32) = 1 by decide), if_neg (show ¬(4 : Int32) = 2 by decide), if_neg (show ¬(4 : Int32) = 3 by decide), if_pos rfl]
          refine gd_ev (ih d B V _ _ _ a3 hV) (fun q hq => ?_)
          by_cases e : q.1 = 0
          · rw [if_pos e]
            exact gd_m (ih d B q.2.1 _ _ _ a5 (wf_V_g hV hq)) (fun w hw => wf_g_t hq hw)
          · rw [if_neg e]
            exact gd_m (ih d B q.2.1 _ _ _ a4 (wf_V_g hV hq)) (fun w hw => wf_g_t hq hw)
        · rw [a1, if_neg (show ¬(5 : Int32) = 1 by decide), if_neg (show ¬(5 : Int32) = 2 by decide), if_neg (show ¬(5 : Int32) = 3 by decide), if_neg (show ¬(5 : Int32) = 4 by decide), if_pos rfl]
          refine gd_ev (ev_args_nn (B := B) (tr_a t) 0 V _ _ (fun i hi V s m hV => ih d B V s m _ (a6 i (by omega)) hV) hV) (fun q hq => ?_)
          obtain ⟨e, he⟩ := hP (tr_n t) a4
          refine gd_ev (ih e _ (ev_l q.1) _ _ _ he (fun i hi => ?_)) (fun w hw => hq.2)
          have hi : i < ar (tr_n t) := hi
          exact ⟨q.1[i]'(by rw [hq.1]; omega), List.getElem?_eq_getElem _⟩
        · have nk : ¬tr_k t = 1 ∧ ¬tr_k t = 2 ∧ ¬tr_k t = 3 ∧ ¬tr_k t = 4 ∧ ¬tr_k t = 5 := by
            rcases a1 with z | z | z | z | z <;> rw [z] <;> decide
          rw [if_neg nk.1, if_neg nk.2.1, if_neg nk.2.2.1, if_neg nk.2.2.2.1, if_neg nk.2.2.2.2]
          refine gd_ev (ih d B V _ _ _ a3 hV) (fun q hq => ?_)
          exact gd_ev (ih d B q.2.1 _ _ _ a4 (wf_V_g hV hq)) (fun w hw => wf_g_t hq hw)
end Wf
end
/-! part b38 -/
section
/-! What is made of trees as they should be. -/
def mk_ar (pg : pg_T) (vs : List mk_V) (k : Nat) : Nat := match vs[k]? with
  | some v => mk_lf v.2.1 (pg_n pg v.1)
  | none => 0
def wf_N (B B' : Nat → Prop) (N : mk_N) : Prop := ∀ i, B i → ∃ q, N i = some q ∧ (q.1 = false → ∃ k, k < 16 ∧ q.2 = Int32.ofNat k ∧ B' k)
def wf_Q (pg : pg_T) (r : Nat) (B B' : Nat → Prop) (N : mk_N) (vs : List mk_V) (q : mk_O) : Prop := (∀ i, B i → q.2.1 i = N i) ∧ vs <+: q.2.2.1 ∧ mk_ok pg q.2.2.1 ∧ wf_t False q.2.2.1.length (mk_ar pg q.2.2.1) r B' q.1.1
def wf_P (pg : pg_T) : Prop := pg.length ≤ 48 ∧ (∀ f, pg_n pg f ≤ 4) ∧ ∀ f, f < pg.length → wf_t True pg.length (pg_n pg) 96 (fun s => s < pg_n pg f) ((pg_P pg).getD f tr_z)
section Wf2
variable {pg : pg_T} {vs vs' : List mk_V} {B B' : Nat → Prop} {N N' : mk_N} {t : tr_T} {as : List mk_R} {f m d : Nat} {kn : Nat → Int32}
theorem mk_ar_pre (h : vs <+: vs') {k : Nat} (hk : k < vs.length) : mk_ar pg vs' k = mk_ar pg vs k := by
  obtain ⟨e, rfl⟩ := h
  unfold mk_ar
  rw [List.getElem?_append_left hk]
theorem wf_pre (h : vs <+: vs') {r : Nat} (ht : wf_t False vs.length (mk_ar pg vs) r B t) : wf_t False vs'.length (mk_ar pg vs') r B t := wf_t_m id h.length_le (fun f hf => mk_ar_pre h hf) r B t ht
theorem mk_lf_0 : ∀ n, mk_lf 0 n = n := by
  intro n
  induction n with
  | zero => rfl
  | succ n ih =>
    show mk_lf 0 n + (if mk_bt 0 n = true then 0 else 1) = n + 1
    rw [mk_bt_0, ih, if_neg (show ¬false = true by decide)]
theorem mk_kp_l : ∀ n, n ≤ as.length → mk_lf (mk_ma as) n = ((as.take n).filter (fun a => decide (¬tr_k a.1 = 1))).length := by
  intro n
  induction n with
  | zero => intro _; rfl
  | succ n ih =>
    intro hn
    show mk_lf (mk_ma as) n + (if mk_bt (mk_ma as) n = true then 0 else 1) = _
    rw [ih (by omega), List.take_succ_eq_append_getElem (show n < as.length by omega), List.filter_append, List.length_append]
    congr 1
    unfold mk_ma
    rw [mk_mk_bt, decide_eq_true (show n < as.length by omega), Bool.true_and]
    have e : mk_nb as n = decide (tr_k as[n].1 = 1) := by
      unfold mk_nb mk_at
      rw [List.getD_eq_getElem?_getD, List.getElem?_eq_getElem (show n < as.length by omega)]
      rfl
    rw [e]
    by_cases h : tr_k as[n].1 = 1
    · rw [decide_eq_true h, if_pos rfl, List.filter_cons_of_neg (by rw [decide_eq_true_iff]; exact fun q => q h)]
      rfl
    · rw [decide_eq_false h, if_neg (show ¬false = true by decide), List.filter_cons_of_pos (by rw [decide_eq_true_iff]; exact h)]
      rfl
theorem mk_kp_len : (mk_kp as).length = mk_lf (mk_ma as) as.length := by
  rw [mk_kp_l as.length (Nat.le_refl _), List.take_length]
  rfl
theorem mk_ld_ar (hl : as.length = pg_n pg f) : mk_ar pg (mk_ld f (mk_ma as) kn as vs).2.2 (mk_ld f (mk_ma as) kn as vs).1 = (mk_ld f (mk_ma as) kn as vs).2.1.length ∧ (mk_ld f (mk_ma as) kn as vs).2.1.length ≤ as.length ∧ ∀ a, a ∈ (mk_ld f (mk_ma as) kn as vs).2.1 → a ∈ as := by
  have hkp : (mk_kp as).length ≤ as.length ∧ ∀ a, a ∈ mk_kp as → a ∈ as := ⟨List.length_filter_le _ _, fun a ha => (List.mem_filter.mp ha).1⟩
  have hfd : ∀ m k, mk_fd f m kn vs 0 = some k → mk_ar pg vs k = mk_lf m (pg_n pg f) := fun m k e => by
    obtain ⟨-, h1, h2⟩ := mk_fd_lt _ _ _ e
    obtain ⟨b1, b2, -⟩ := mk_is_iff.mp h2
    unfold mk_ar
    rw [List.getElem?_eq_getElem (show k < vs.length by omega)]
    show mk_lf vs[k - 0].2.1 (pg_n pg vs[k - 0].1) = _
    rw [b1, b2]
  have hnw : ∀ m, mk_ar pg (vs ++ [mk_new f m kn]) vs.length = mk_lf m (pg_n pg f) := fun m => by
    unfold mk_ar
    rw [List.getElem?_append_right (Nat.le_refl _), Nat.sub_self]
    rfl
  unfold mk_ld
  cases e : mk_fd f (mk_ma as) kn vs 0 with
  | some k => exact ⟨by show mk_ar pg vs k = (mk_kp as).length; rw [hfd _ _ e, mk_kp_len, hl], hkp⟩
  | none =>
    dsimp only
    split
    · exact ⟨by show mk_ar pg (vs ++ [mk_new f (mk_ma as) kn]) vs.length = (mk_kp as).length; rw [hnw, mk_kp_len, hl], hkp⟩
    · cases e2 : mk_fd f 0 kn vs 0 with
      | some k => exact ⟨by show mk_ar pg vs k = as.length; rw [hfd _ _ e2, mk_lf_0, hl], Nat.le_refl _, fun a ha => ha⟩
      | none => exact ⟨by show mk_ar pg (vs ++ [mk_new f 0 kn]) vs.length = as.length; rw [hnw, mk_lf_0, hl], Nat.le_refl _, fun a ha => ha⟩
theorem pg_P_l : (pg_P pg).length = pg.length := List.length_map _
theorem mk_go_nn (hP : wf_P pg) (hf : f < pg.length) (hl : as.length = pg_n pg f) {s : mk_S} (hok : mk_ok pg s.1) (ha : ∀ a, a ∈ as → wf_t False s.1.length (mk_ar pg s.1) d B' a.1) : s.1 <+: (mk_go f as s).2.1 ∧ mk_ok pg (mk_go f as s).2.1 ∧ wf_t False (mk_go f as s).2.1.length (mk_ar pg (mk_go f as s).2.1) (d + 1) B' (mk_go f as s).1.1 := by
  have hm : mk_ma as < 2 ^ pg_n pg f := by rw [← hl]; exact mk_mk_lt _ _
  obtain ⟨o1, o2, o3⟩ := mk_ld_ok (kn := mk_kn as) (as := as) hok hf hm
  obtain ⟨l1, l2, l3⟩ := mk_ld_ar (kn := mk_kn as) (vs := s.1) hl
  have h4 := hP.2.1 f
  have h48 := hP.1
  have hlen := mk_ok_len o1
  refine ⟨o3, o1, ?_⟩
  show wf_t False (mk_ld f (mk_ma as) (mk_kn as) as s.1).2.2.length (mk_ar pg (mk_ld f (mk_ma as) (mk_kn as) as s.1).2.2) (d + 1) B' (mk_cl (mk_ld f (mk_ma as) (mk_kn as) as s.1).1 (mk_ld f (mk_ma as) (mk_kn as) as s.1).2.1).1
  generalize mk_ld f (mk_ma as) (mk_kn as) as s.1 = w at *
  have en : tr_n (mk_cl w.1 w.2.1).1 = w.1 := by
    show (Int32.ofNat w.1).toNatClampNeg = w.1
    exact im_t (by omega)
  refine Or.inr (Or.inr (Or.inr (Or.inr (Or.inl ⟨rfl, by show w.2.1.length ≤ 4; omega, by rw [en]; rfl, by rw [en]; exact o2, by rw [en]; exact l1.symm, fun j hj => ?_⟩))))
  have hj : j < w.2.1.length := hj
  have e : tr_sub (mk_cl w.1 w.2.1).1 j = w.2.1[j].1 := by
    show (w.2.1.map (fun a => a.1)).getD j tr_z = _
    rw [List.getD_eq_getElem?_getD, List.getElem?_map, List.getElem?_eq_getElem hj]
    rfl
  rw [e]
  exact wf_pre o3 (ha _ (l3 _ (List.getElem_mem hj)))
theorem mk_call_nn (hP : wf_P pg) (hf : f < pg.length) (hl : as.length = pg_n pg f) {s : mk_S} (hok : mk_ok pg s.1) (ha : ∀ a, a ∈ as → wf_t False s.1.length (mk_ar pg s.1) d B' a.1) : gd (fun w => s.1 <+: w.2.1 ∧ mk_ok pg w.2.1 ∧ wf_t False w.2.1.length (mk_ar pg w.2.1) (d + 1) B' w.1.1) (mk_call (pg_P pg) f as s) := by
  unfold mk_call
  have hev := ev_nn (fr := True) (P := pg_P pg) (ar := pg_n pg) (lim := 500) (fun f hf => ⟨96, by rw [pg_P_l] at hf ⊢; exact hP.2.2 f hf⟩) 160 96 _ (ev_l (as.map (fun a => tr_v a.1))) 0 0 _ (by rw [pg_P_l]; exact hP.2.2 f hf) (fun i hi => by
    have hi : i < pg_n pg f := hi
    exact ⟨(as.map (fun a => tr_v a.1))[i]'(by rw [List.length_map]; omega), List.getElem?_eq_getElem _⟩)
  split
  · cases e : ev (pg_P pg) 500 160 (ev_l (as.map (fun a => tr_v a.1))) 0 0 ((pg_P pg).getD f tr_z) with
    | ok q => exact ⟨List.prefix_refl _, hok, Or.inl rfl⟩
    | error u =>
      cases u with
      | none => rw [e] at hev; exact hev.elim
      | some u => exact mk_go_nn hP hf hl (s := (s.1, s.2.1, s.2.2.1 + 1, s.2.2.2)) hok ha
  · exact mk_go_nn hP hf hl hok ha
theorem wf_N_e (h : wf_N B B' N) (he : ∀ i, B i → N' i = N i) : wf_N B B' N' := fun i hi => by
  rw [he i hi]
  exact h i hi
theorem mk_args_nn {self : mk_P} : ∀ (r j : Nat) (N : mk_N) (s : mk_S), (∀ i, i < j + r → ∀ N s, wf_N B B' N → mk_ok pg s.1 → gd (wf_Q pg d B B' N s.1) (self N s (tr_sub t i))) → wf_N B B' N → mk_ok pg s.1 → gd (fun q => q.1.length = r ∧ (∀ i, B i → q.2.1 i = N i) ∧ s.1 <+: q.2.2.1 ∧ mk_ok pg q.2.2.1 ∧ ∀ a, a ∈ q.1 → wf_t False q.2.2.1.length (mk_ar pg q.2.2.1) d B' a.1) (mk_args self t r j N s) := by
  intro r
  induction r with
  | zero => intro j N s _ _ hok; exact ⟨rfl, fun _ _ => rfl, List.prefix_refl _, hok, fun a ha => absurd ha List.not_mem_nil⟩
  | succ r ih =>
    intro j N s hs hN hok
    refine gd_mk (hs j (by omega) N s hN hok) (fun q hq => ?_)
    obtain ⟨q1, q2, q3, q4⟩ := hq
    refine gd_mk (ih (j + 1) q.2.1 q.2.2 (fun i hi => hs i (by omega)) (wf_N_e hN q1) q3) (fun w hw => ?_)
    obtain ⟨w1, w2, w3, w4, w5⟩ := hw
    refine ⟨by show w.1.length + 1 = r + 1; rw [w1], fun i hi => by show w.2.1 i = N i; rw [w2 i hi, q1 i hi], q2.trans w3, w4, fun a ha => ?_⟩
    have ha : a ∈ q.1 :: w.1 := ha
    rcases List.mem_cons.mp ha with rfl | ha
    · exact wf_pre w3 q4
    · exact w5 a ha
theorem mk_nn_t (hP : wf_P pg) : ∀ (r : Nat) (N : mk_N) (s : mk_S) (t : tr_T) (B B' : Nat → Prop), wf_t True pg.length (pg_n pg) r B t → wf_N B B' N → mk_ok pg s.1 → gd (wf_Q pg r B B' N s.1) (mk pg r N s t) := by
  intro r
  induction r with
  | zero => intro N s t B B' ht _ _; exact ht.elim
  | succ r ih =>
    intro N s t B B' ht hN hok
    unfold mk
    split
    · trivial
    · have ht : wf_b True pg.length (pg_n pg) (wf_t True pg.length (pg_n pg) r) B t := ht
      generalize hs1 : ((s.1, s.2.1 + 1, s.2.2) : mk_S) = s1
      have e1 : s1.1 = s.1 := by rw [← hs1]
      rw [← e1] at hok ⊢
      unfold mk_in
      rw [if_pos (wf_ok ht)]
      rcases ht with h | ⟨a1, a2, a3, a4⟩ | ⟨a1, a2, a3, a4, a5, a6, a7⟩ | ⟨a1, a2, a3, a4, a5⟩ | ⟨a1, a2, a3, a4, a5, a6⟩ | ⟨a1, a2, a3, a4⟩
      · rw [if_pos h]
        exact ⟨fun _ _ => rfl, List.prefix_refl _, hok, Or.inl rfl⟩
      · rw [a1, if_neg (show ¬(2 : Int32) = 1 by decide), if_pos rfl]
        obtain ⟨q, q1, q2⟩ := hN _ a4
        rw [q1]
        refine ⟨fun _ _ => rfl, List.prefix_refl _, hok, ?_⟩
        show wf_t False s1.1.length (mk_ar pg s1.1) (r + 1) B' (mk_name q).1
        unfold mk_name
        by_cases e : q.1 = true
        · rw [if_pos e]
          exact Or.inl rfl
        · rw [if_neg e]
          obtain ⟨k, k1, k2, k3⟩ := q2 (Bool.eq_false_iff.mpr e)
          have en : tr_n (tr_l 2 q.2 0) = k := by
            show q.2.toNatClampNeg = k
            rw [k2, im_t (by omega)]
          exact Or.inr (Or.inl ⟨rfl, by rw [en]; exact k2, by rw [en]; exact k1, by rw [en]; exact k3⟩)
      · rw [a1, if_neg (show ¬(3 : Int32) = 1 by decide), if_neg (show ¬(3 : Int32) = 2 by decide), if_pos rfl]
        unfold mk_let
        refine gd_mk (ih N s1 _ B B' a6 hN hok) (fun q hq => ?_)
        obtain ⟨q1, q2, q3, q4⟩ := hq
        have hne : ∀ i, B i → ¬i = tr_n t := fun i hi e => a5 trivial (by rw [← e]; exact hi)
        by_cases e : tr_k q.1.1 = 1
        · rw [if_pos e]
          refine gd_m (ih (mk_u q.2.1 (tr_n t) (true, tr_v q.1.1)) q.2.2 _ _ B' a7 (fun i hi => ?_) q3) (fun w hw => ?_)
          · unfold mk_u
            by_cases ei : i = tr_n t
            · exact ⟨_, if_pos ei, fun z => by cases z⟩
            · rw [if_neg ei]
              exact wf_N_e hN q1 i (hi.resolve_right ei)
          · obtain ⟨w1, w2, w3, w4⟩ := hw
            refine ⟨fun i hi => ?_, q2.trans w2, w3, wf_t_s _ _ _ w4⟩
            rw [w1 i (Or.inl hi)]
            unfold mk_u
            rw [if_neg (hne i hi), q1 i hi]
        · rw [if_neg e]
          refine gd_mk (ih (mk_u q.2.1 (tr_n t) (false, tr_v t)) q.2.2 _ _ (fun x => B' x ∨ x = tr_n t) a7 (fun i hi => ?_) q3) (fun w hw => ?_)
          · unfold mk_u
            by_cases ei : i = tr_n t
            · exact ⟨_, if_pos ei, fun _ => ⟨tr_n t, a3, a2, Or.inr rfl⟩⟩
            · rw [if_neg ei]
              obtain ⟨x, x1, x2⟩ := wf_N_e hN q1 i (hi.resolve_right ei)
              refine ⟨x, x1, fun z => ?_⟩
              obtain ⟨k, k1, k2, k3⟩ := x2 z
              exact ⟨k, k1, k2, Or.inl k3⟩
          · obtain ⟨w1, w2, w3, w4⟩ := hw
            refine ⟨fun i hi => ?_, q2.trans w2, w3, ?_⟩
            · show w.2.1 i = N i
              rw [w1 i (Or.inl hi)]
              unfold mk_u
              rw [if_neg (hne i hi), q1 i hi]
            · exact Or.inr (Or.inr (Or.inl ⟨rfl, a2, a3, rfl, fun z => z.elim, wf_pre w2 q4, w4⟩))
      · rw [a1, if_neg (show ¬(4 : Int32) = 1 by decide), if_neg (show ¬(4 : Int32) = 2 by decide), if_neg (show ¬(4 : Int32) = 3 by decide), if_pos rfl]
        unfold mk_if
        refine gd_mk (ih N s1 _ B B' a3 hN hok) (fun q hq => ?_)
        obtain ⟨q1, q2, q3, q4⟩ := hq
        by_cases e : tr_k q.1.1 = 1
        · rw [if_pos e]
          have hz : wf_t True pg.length (pg_n pg) r B (tr_sub t (if tr_v q.1.1 = 0 then 2 else 1)) := by
            split
            · exact a5
            · exact a4
          refine gd_m (ih q.2.1 q.2.2 _ B B' hz (wf_N_e hN q1) q3) (fun w hw => ?_)
          obtain ⟨w1, w2, w3, w4⟩ := hw
          exact ⟨fun i hi => by rw [w1 i hi, q1 i hi], q2.trans w2, w3, wf_t_s _ _ _ w4⟩
        · rw [if_neg e]
          refine gd_mk (ih q.2.1 q.2.2 _ B B' a4 (wf_N_e hN q1) q3) (fun w hw => ?_)
          obtain ⟨w1, w2, w3, w4⟩ := hw
          have hw1 : ∀ i, B i → w.2.1 i = N i := fun i hi => by rw [w1 i hi, q1 i hi]
          refine gd_mk (ih w.2.1 w.2.2 _ B B' a5 (wf_N_e hN hw1) w3) (fun u hu => ?_)
          obtain ⟨u1, u2, u3, u4⟩ := hu
          exact ⟨fun i hi => by show u.2.1 i = N i; rw [u1 i hi, hw1 i hi], q2.trans (w2.trans u2), u3, Or.inr (Or.inr (Or.inr (Or.inl ⟨rfl, rfl, wf_pre (w2.trans u2) q4, wf_pre u2 w4, u4⟩)))⟩
      · rw [a1, if_neg (show ¬(5 : Int32) = 1 by decide), if_neg (show ¬(5 : Int32) = 2 by decide), if_neg (show ¬(5 : Int32) = 3 by decide), if_neg (show ¬(5 : Int32) = 4 by decide), if_pos rfl, if_pos a5]
        unfold mk_ca
        refine gd_mk (mk_args_nn (d := r) (B := B) (B' := B') (tr_a t) 0 N s1 (fun i hi N s hN hok => ih N s _ B B' (a6 i (by omega)) hN hok) hN hok) (fun q hq => ?_)
        obtain ⟨q0, q1, q2, q3, q4⟩ := hq
        refine gd_mk (mk_call_nn hP a4 (by rw [q0]; exact a5) q3 q4) (fun w hw => ?_)
        exact ⟨q1, q2.trans hw.1, hw.2.1, hw.2.2⟩
      · have nk : ¬tr_k t = 1 ∧ ¬tr_k t = 2 ∧ ¬tr_k t = 3 ∧ ¬tr_k t = 4 ∧ ¬tr_k t = 5 := by
          rcases a1 with z | z | z | z | z <;> rw [z] <;> decide
        rw [if_neg nk.1, if_neg nk.2.1, if_neg nk.2.2.1, if_neg nk.2.2.2.1, if_neg nk.2.2.2.2]
        unfold mk_sg
        refine gd_mk (ih N s1 _ B B' a3 hN hok) (fun q hq => ?_)
        obtain ⟨q1, q2, q3, q4⟩ := hq
        refine gd_mk (ih q.2.1 q.2.2 _ B B' a4 (wf_N_e hN q1) q3) (fun w hw => ?_)
        obtain ⟨w1, w2, w3, w4⟩ := hw
        have hw1 : ∀ i, B i → w.2.1 i = N i := fun i hi => by rw [w1 i hi, q1 i hi]
        split
        · exact ⟨hw1, q2.trans w2, w3, Or.inl rfl⟩
        · exact ⟨hw1, q2.trans w2, w3, Or.inr (Or.inr (Or.inr (Or.inr (Or.inr ⟨a1, rfl, wf_pre w2 q4, w4⟩))))⟩
end Wf2
end
/-! part b39 -/
section
/-! How long a print is. -/
def tr_sm (g : Nat → Nat) : Nat → Nat
  | 0 => 0
  | n + 1 => tr_sm g n + g n
def tr_sz : Nat → tr_T → Nat
  | 0, _ => 0
  | d + 1, t => 1 + tr_sm (fun j => tr_sz d (tr_sub t j)) (tr_a t)
def pr_G (s : pr_S) (n : Nat) (x : pr_O) : Prop := ∃ l s', x = some (l, s') ∧ (∀ i j, s.2 i = some j → ∃ k, s'.2 i = some k) ∧ l.length ≤ n
section Wf3
variable {pn d l n m : Nat} {ar : Nat → Nat} {fr : Prop} {B : Nat → Prop} {t : tr_T} {s : pr_S} {x : pr_O} {f : pr_S → pr_O}
theorem pr_Gb (h : pr_G s n x) (hf : ∀ s', (∀ i j, s.2 i = some j → ∃ k, s'.2 i = some k) → pr_G s' m (f s')) : pr_G s (n + m) (pr_b x f) := by
  obtain ⟨l1, s1, rfl, h1, h2⟩ := h
  obtain ⟨l2, s2, e2, h3, h4⟩ := hf s1 h1
  refine ⟨l1 ++ l2, s2, ?_, fun i j hij => ?_, by rw [List.length_append]; omega⟩
  · unfold pr_b
    dsimp only
    rw [e2]
  · obtain ⟨k, hk⟩ := h1 i j hij
    exact h3 i k hk
theorem pr_Gm (h : pr_G s n x) (hnm : n ≤ m) : pr_G s m x := by
  obtain ⟨l1, s1, e, h1, h2⟩ := h
  exact ⟨l1, s1, e, h1, by omega⟩
theorem pr_G0 {k : List Int32} (h : k.length ≤ n) : pr_G s n (some (k, s)) := ⟨k, s, rfl, fun i j h => ⟨j, h⟩, h⟩
def pr_D (pn : Nat) (B : Nat → Prop) (s : pr_S) : Prop := ∀ i, B i → i < pn ∨ ∃ j, s.2 i = some j
theorem pr_D_g {s' : pr_S} (h : pr_D pn B s) (g : ∀ i j, s.2 i = some j → ∃ k, s'.2 i = some k) : pr_D pn B s' := fun i hi => by
  rcases h i hi with q | ⟨j, q⟩
  · exact Or.inl q
  · exact Or.inr (g i j q)
theorem pr_as_nn {self : pr_S → tr_T → pr_O} {g : Nat → Nat} {a : Nat} (hs : ∀ j, j < a → ∀ s, pr_D pn B s → pr_G s (24 * g j) (self s (tr_sub t j))) : ∀ (q j : Nat) (s : pr_S), q + j = a → pr_D pn B s → ∃ n, pr_G s n (pr_as self t q j s) ∧ n + 24 * tr_sm g j = 24 * tr_sm g a + 2 * q + 1 := by
  intro q
  induction q with
  | zero =>
    intro j s hj hD
    rw [show j = a by omega]
    exact ⟨1, pr_G0 (Nat.le_refl 1), by omega⟩
  | succ q ih =>
    intro j s hj hD
    have e17 : (pr_x 17).length = 2 := by decide +kernel
    have hg : tr_sm g (j + 1) = tr_sm g j + g j := rfl
    have hle : ∀ q i, i + q = a → tr_sm g i ≤ tr_sm g a := by
      intro q
      induction q with
      | zero => intro i hi; rw [show i = a by omega]; exact Nat.le_refl _
      | succ q ih =>
        intro i hi
        have := ih (i + 1) (by omega)
        have e : tr_sm g (i + 1) = tr_sm g i + g i := rfl
        omega
    have hja := hle q (j + 1) (by omega)
    refine ⟨2 + (24 * g j + (24 * tr_sm g a + 2 * q + 1 - 24 * tr_sm g (j + 1))), ?_, by omega⟩
    show pr_G s _ (pr_b (some (if j = 0 then [] else pr_x 17, s)) fun s => pr_b (self s (tr_sub t j)) fun s => pr_as self t q (j + 1) s)
    refine pr_Gb (pr_G0 ?_) (fun s1 h1 => pr_Gb (hs j (by omega) s1 (pr_D_g hD h1)) (fun s2 h2 => ?_))
    · split
      · exact Nat.zero_le _
      · rw [e17]; exact Nat.le_refl _
    · obtain ⟨n, n1, n2⟩ := ih (j + 1) s2 (by omega) (pr_D_g (pr_D_g hD h1) h2)
      exact pr_Gm n1 (by omega)
/-- a tree as it should be is printed, with no more than 24 bytes a node -/
theorem pr_nn (hl : l ≤ 78) : ∀ (r : Nat) (s : pr_S) (t : tr_T) (B : Nat → Prop), wf_t fr l ar r B t → pr_D pn B s → pr_G s (24 * tr_sz r t) (pr pn r s t) := by
  intro r
  induction r with
  | zero => intro s t B ht _; exact ht.elim
  | succ r ih =>
    intro s t B ht hD
    have ht : wf_b fr l ar (wf_t fr l ar r) B t := ht
    have ok : ev_ok 78 t := by
      have := wf_ok ht
      rcases this with h | h | h | h | ⟨a1, a2, a3, a4⟩ | h
      · exact Or.inl h
      · exact Or.inr (Or.inl h)
      · exact Or.inr (Or.inr (Or.inl h))
      · exact Or.inr (Or.inr (Or.inr (Or.inl h)))
      · exact Or.inr (Or.inr (Or.inr (Or.inr (Or.inl ⟨a1, a2, a3, by omega⟩))))
      · exact Or.inr (Or.inr (Or.inr (Or.inr (Or.inr h))))
    have esz : tr_sz (r + 1) t = 1 + tr_sm (fun j => tr_sz r (tr_sub t j)) (tr_a t) := rfl
    show pr_G s (24 * tr_sz (r + 1) t) (pr_in pn (pr pn r) s t)
    rw [esz]
    unfold pr_in
    rw [if_pos ok]
    rcases ht with h | ⟨a1, a2, a3, a4⟩ | ⟨a1, a2, a3, a4, a5, a6, a7⟩ | ⟨a1, a2, a3, a4, a5⟩ | ⟨a1, a2, a3, a4, a5, a6⟩ | ⟨a1, a2, a3, a4⟩
    · rw [if_pos h]
      exact pr_G0 (by have := pr_i_l (tr_v t); omega)
    · rw [a1, if_neg (show ¬(2 : Int32) = 1 by decide), if_pos rfl]
      by_cases e : tr_n t < pn
      · rw [if_pos e]
        exact pr_G0 (by show 1 ≤ _; omega)
      · rw [if_neg e]
        obtain ⟨j, hj⟩ := (hD _ a4).resolve_left e
        rw [hj]
        exact pr_G0 (by show (pr_n j).length + 1 ≤ _; have := pr_n_l j; omega)
    · rw [a1, if_neg (show ¬(3 : Int32) = 1 by decide), if_neg (show ¬(3 : Int32) = 2 by decide), if_pos rfl, a4]
      have l21 : (pr_x 21).length = 6 := by decide +kernel
      have l22 : (pr_x 22).length = 3 := by decide +kernel
      have l23 : (pr_x 23).length = 4 := by decide +kernel
      have e2 : tr_sm (fun j => tr_sz r (tr_sub t j)) 2 = 0 + tr_sz r (tr_sub t 0) + tr_sz r (tr_sub t 1) := rfl
      have h0 : pr_G s 19 (some (pr_x 21 ++ pr_n s.1 ++ pr_x 22, s.1 + 1, pr_u s.2 (tr_n t) s.1)) := by
        refine ⟨_, _, rfl, fun i j hij => ?_, ?_⟩
        · show ∃ k, pr_u s.2 (tr_n t) s.1 i = some k
          unfold pr_u
          by_cases e : i = tr_n t
          · exact ⟨_, if_pos e⟩
          · exact ⟨j, by rw [if_neg e]; exact hij⟩
        · rw [List.length_append, List.length_append, l21, l22]
          have := pr_n_l s.1
          omega
      refine pr_Gm (n := 19 + (24 * tr_sz r (tr_sub t 0) + (4 + (24 * tr_sz r (tr_sub t 1) + 1)))) ?_ (by rw [e2]; omega)
      obtain ⟨k0, s0, e0, g0, n0⟩ := h0
      have hs0 : s0 = (s.1 + 1, pr_u s.2 (tr_n t) s.1) := by cases e0; rfl
      have hu : ∃ k, s0.2 (tr_n t) = some k := ⟨s.1, by rw [hs0]; exact if_pos rfl⟩
      rw [e0]
      obtain ⟨k1, s1, e1, g1, n1⟩ : pr_G s0 (24 * tr_sz r (tr_sub t 0) + (4 + (24 * tr_sz r (tr_sub t 1) + 1))) (pr_b (pr pn r s0 (tr_sub t 0)) fun s => pr_b (some (pr_x 23, s)) fun s => pr_b (pr pn r s (tr_sub t 1)) fun s => some ([41], s)) := by
        refine pr_Gb (ih s0 _ B a6 (pr_D_g hD g0)) (fun s1 h1 => pr_Gb (pr_G0 (by rw [l23]; exact Nat.le_refl _)) (fun s2 h2 => pr_Gb (ih s2 _ _ a7 (fun i hi => ?_)) (fun s3 h3 => pr_G0 (Nat.le_refl 1))))
        rcases hi with hi | hi
        · exact pr_D_g (pr_D_g (pr_D_g hD g0) h1) h2 i hi
        · obtain ⟨k, hk⟩ := hu
          obtain ⟨k', hk'⟩ := h1 _ _ hk
          rw [hi]
          exact Or.inr (h2 _ _ hk')
      refine ⟨k0 ++ k1, s1, ?_, fun i j hij => ?_, by rw [List.length_append]; omega⟩
      · unfold pr_b at e1 ⊢
        dsimp only
        dsimp only at e1
        rw [e1]
      · obtain ⟨k, hk⟩ := g0 i j hij
        exact g1 i k hk
    · rw [a1, if_neg (show ¬(4 : Int32) = 1 by decide), if_neg (show ¬(4 : Int32) = 2 by decide), if_neg (show ¬(4 : Int32) = 3 by decide), if_pos rfl, a2]
      have l24 : (pr_x 24).length = 4 := by decide +kernel
      have l25 : (pr_x 25).length = 6 := by decide +kernel
      have l26 : (pr_x 26).length = 6 := by decide +kernel
      have e2 : tr_sm (fun j => tr_sz r (tr_sub t j)) 3 = 0 + tr_sz r (tr_sub t 0) + tr_sz r (tr_sub t 1) + tr_sz r (tr_sub t 2) := rfl
      refine pr_Gm (n := 4 + (24 * tr_sz r (tr_sub t 0) + (6 + (24 * tr_sz r (tr_sub t 1) + (6 + (24 * tr_sz r (tr_sub t 2) + 1)))))) ?_ (by rw [e2]; omega)
      refine pr_Gb (pr_G0 (by rw [l24]; exact Nat.le_refl _)) (fun s1 h1 => ?_)
      have d1 := pr_D_g hD h1
      refine pr_Gb (ih s1 _ B a3 d1) (fun s2 h2 => ?_)
      have d2 := pr_D_g d1 h2
      refine pr_Gb (pr_G0 (by rw [l25]; exact Nat.le_refl _)) (fun s3 h3 => ?_)
      have d3 := pr_D_g d2 h3
      refine pr_Gb (ih s3 _ B a4 d3) (fun s4 h4 => ?_)
      have d4 := pr_D_g d3 h4
      refine pr_Gb (pr_G0 (by rw [l26]; exact Nat.le_refl _)) (fun s5 h5 => ?_)
      exact pr_Gb (ih s5 _ B a5 (pr_D_g d4 h5)) (fun s6 h6 => pr_G0 (Nat.le_refl 1))
    · rw [a1, if_neg (show ¬(5 : Int32) = 1 by decide), if_neg (show ¬(5 : Int32) = 2 by decide), if_neg (show ¬(5 : Int32) = 3 by decide), if_neg (show ¬(5 : Int32) = 4 by decide), if_pos rfl]
      refine pr_Gm (n := 12 + (24 * tr_sm (fun j => tr_sz r (tr_sub t j)) (tr_a t) + 2 * tr_a t + 1)) ?_ (by omega)
      refine pr_Gb (pr_G0 ?_) (fun s1 h1 => ?_)
      · rw [List.length_append]
        show (pr_n (tr_n t)).length + 1 + 1 ≤ 12
        have := pr_n_l (tr_n t)
        omega
      · obtain ⟨n, n1, n2⟩ := pr_as_nn (g := fun j => tr_sz r (tr_sub t j)) (fun j hj s hs => ih s _ B (a6 j hj) hs) (tr_a t) 0 s1 rfl (pr_D_g hD h1)
        have e0 : tr_sm (fun j => tr_sz r (tr_sub t j)) 0 = 0 := rfl
        exact pr_Gm n1 (by omega)
    · have nk : ¬tr_k t = 1 ∧ ¬tr_k t = 2 ∧ ¬tr_k t = 3 ∧ ¬tr_k t = 4 ∧ ¬tr_k t = 5 := by
        rcases a1 with z | z | z | z | z <;> rw [z] <;> decide
      rw [if_neg nk.1, if_neg nk.2.1, if_neg nk.2.2.1, if_neg nk.2.2.2.1, if_neg nk.2.2.2.2, a2]
      have e2 : tr_sm (fun j => tr_sz r (tr_sub t j)) 2 = 0 + tr_sz r (tr_sub t 0) + tr_sz r (tr_sub t 1) := rfl
      have lx : (pr_x (pr_sx (tr_k t))).length ≤ 4 := by
        rcases a1 with z | z | z | z | z <;> rw [z] <;> decide +kernel
      refine pr_Gm (n := 1 + (24 * tr_sz r (tr_sub t 0) + (4 + (24 * tr_sz r (tr_sub t 1) + 1)))) ?_ (by rw [e2]; omega)
      refine pr_Gb (pr_G0 (Nat.le_refl 1)) (fun s1 h1 => ?_)
      have d1 := pr_D_g hD h1
      refine pr_Gb (ih s1 _ B a3 d1) (fun s2 h2 => ?_)
      have d2 := pr_D_g d1 h2
      refine pr_Gb (pr_G0 lx) (fun s3 h3 => ?_)
      exact pr_Gb (ih s3 _ B a4 (pr_D_g d2 h3)) (fun s4 h4 => pr_G0 (Nat.le_refl 1))
end Wf3
end
/-! part b40 -/
section
/-! What make() makes: sizes, prints, runs. -/
def wl_s : pg_T → Nat
  | [] => 0
  | q :: r => q.2.2.1 + wl_s r
def wl_D (pg ds : pg_T) (s : mk_S) : Prop := (∀ j, (hj : j < ds.length) → ds[j].1 = mk_ar pg s.1 j ∧ wf_t False s.1.length (mk_ar pg s.1) 96 (fun i => i < mk_ar pg s.1 j) ds[j].2.1 ∧ ∀ d, tr_sz d ds[j].2.1 ≤ ds[j].2.2.1) ∧ wl_s ds ≤ s.2.1 ∧ s.2.1 ≤ 1000
section Wf4
variable {pg ds : pg_T} {f k n m L : Nat} {kn : Nat → Int32} {as : List mk_R} {fr : Prop} {ar : Nat → Nat}
theorem tr_sm_s (g : Nat → Nat) : ∀ n, tr_sm g (n + 1) = g 0 + tr_sm (fun j => g (j + 1)) n := by
  intro n
  induction n with
  | zero => show 0 + g 0 = g 0 + 0; omega
  | succ n ih =>
    show tr_sm g (n + 1) + g (n + 1) = g 0 + (tr_sm (fun j => g (j + 1)) n + g (n + 1))
    rw [ih]
    omega
theorem tr_sm_l {d : Nat} : ∀ as : List mk_R, (∀ a, a ∈ as → tr_sz d a.1 ≤ a.2.1) → tr_sm (fun j => tr_sz d ((as.map (fun a => a.1)).getD j tr_z)) as.length ≤ mk_sz as := by
  intro as
  induction as with
  | nil => intro _; exact Nat.le_refl _
  | cons a r ih =>
    intro h
    show tr_sm _ (r.length + 1) ≤ a.2.1 + mk_sz r
    rw [tr_sm_s]
    have h1 := h a List.mem_cons_self
    have h2 := ih (fun b hb => h b (List.mem_cons_of_mem _ hb))
    exact Nat.add_le_add h1 h2
theorem mk_tz_cl (h : ∀ a, a ∈ as → ∀ d, tr_sz d a.1 ≤ a.2.1) (k : Nat) : ∀ d, tr_sz d (mk_cl k as).1 ≤ (mk_cl k as).2.1 := by
  intro d
  cases d with
  | zero => exact Nat.zero_le _
  | succ d =>
    have := tr_sm_l (d := d) as (fun a ha => h a ha d)
    show 1 + tr_sm (fun j => tr_sz d ((as.map (fun a => a.1)).getD j tr_z)) as.length ≤ 1 + mk_sz as
    omega
theorem mk_ld_in {vs : List mk_V} : ∀ a, a ∈ (mk_ld f m kn as vs).2.1 → a ∈ as := by
  have hkp : ∀ a, a ∈ mk_kp as → a ∈ as := fun a ha => (List.mem_filter.mp ha).1
  unfold mk_ld
  split
  · exact hkp
  · split
    · exact hkp
    · split
      · exact fun a ha => ha
      · exact fun a ha => ha
theorem tz_n (v : Int32) : ∀ d, tr_sz d (mk_n v).1 ≤ (mk_n v).2.1 := by
  intro d
  cases d with
  | zero => exact Nat.zero_le _
  | succ d => exact Nat.le_refl 1
theorem mk_tz_call {P : List tr_T} {s : mk_S} {w : mk_R × mk_S} (ha : ∀ a, a ∈ as → ∀ d, tr_sz d a.1 ≤ a.2.1) (h : mk_call P f as s = .ok w) : ∀ d, tr_sz d w.1.1 ≤ w.1.2.1 := by
  unfold mk_call at h
  split at h
  · split at h
    · cases h; exact tz_n _
    · cases h
    · cases h; exact mk_tz_cl (fun a q => ha a (mk_ld_in a q)) _
  · cases h; exact mk_tz_cl (fun a q => ha a (mk_ld_in a q)) _
theorem mk_args_tz {self : mk_P} (hs : ∀ N s t q, self N s t = .ok q → ∀ d, tr_sz d q.1.1 ≤ q.1.2.1) {t : tr_T} : ∀ (r j : Nat) (N : mk_N) (s : mk_S) (q : List mk_R × mk_N × mk_S), mk_args self t r j N s = .ok q → ∀ a, a ∈ q.1 → ∀ d, tr_sz d a.1 ≤ a.2.1 := by
  intro r
  induction r with
  | zero => intro j N s q h; cases h; exact fun a ha => absurd ha List.not_mem_nil
  | succ r ih =>
    intro j N s q h
    obtain ⟨a, h1, h2⟩ := mk_b_ok h
    obtain ⟨w, h3, h4⟩ := mk_b_ok h2
    cases h4
    intro b hb
    have hb : b ∈ a.1 :: w.1 := hb
    rcases List.mem_cons.mp hb with rfl | hb
    · exact hs _ _ _ _ h1
    · exact ih _ _ _ _ h3 b hb
theorem mk_tz : ∀ (r : Nat) (N : mk_N) (s : mk_S) (t : tr_T) (q : mk_O), mk pg r N s t = .ok q → ∀ d, tr_sz d q.1.1 ≤ q.1.2.1 := by
  intro r
  induction r with
  | zero => intro N s t q h; cases h
  | succ r ih =>
    intro N s t q h
    unfold mk at h
    split at h
    · cases h
    · unfold mk_in at h
      split at h
      · split at h
        · cases h; exact tz_n _
        · split at h
          · split at h
            · next u _ =>
              cases h
              show ∀ d, tr_sz d (mk_name u).1 ≤ (mk_name u).2.1
              unfold mk_name
              split
              · exact tz_n _
              · intro d
                cases d with
                | zero => exact Nat.zero_le _
                | succ d => exact Nat.le_refl 1
            · cases h
          · split at h
            · obtain ⟨a, h1, h2⟩ := mk_b_ok h
              split at h2
              · exact ih _ _ _ _ h2
              · obtain ⟨w, h3, h4⟩ := mk_b_ok h2
                cases h4
                intro d
                cases d with
                | zero => exact Nat.zero_le _
                | succ d =>
                  have x1 := ih _ _ _ _ h1 d
                  have x2 := ih _ _ _ _ h3 d
                  show 1 + (0 + tr_sz d a.1.1 + tr_sz d w.1.1) ≤ 1 + a.1.2.1 + w.1.2.1
                  omega
            · split at h
              · obtain ⟨a, h1, h2⟩ := mk_b_ok h
                split at h2
                · exact ih _ _ _ _ h2
                · obtain ⟨w, h3, h4⟩ := mk_b_ok h2
                  obtain ⟨u, h5, h6⟩ := mk_b_ok h4
                  cases h6
                  intro d
                  cases d with
                  | zero => exact Nat.zero_le _
                  | succ d =>
                    have x1 := ih _ _ _ _ h1 d
                    have x2 := ih _ _ _ _ h3 d
                    have x3 := ih _ _ _ _ h5 d
                    show 1 + (0 + tr_sz d a.1.1 + tr_sz d w.1.1 + tr_sz d u.1.1) ≤ 1 + a.1.2.1 + w.1.2.1 + u.1.2.1
                    omega
              · split at h
                · split at h
                  · obtain ⟨a, h1, h2⟩ := mk_b_ok h
                    obtain ⟨w, h3, h4⟩ := mk_b_ok h2
                    cases h4
                    exact mk_tz_call (mk_args_tz ih _ _ _ _ _ h1) h3
                  · cases h
                · obtain ⟨a, h1, h2⟩ := mk_b_ok h
                  obtain ⟨w, h3, h4⟩ := mk_b_ok h2
                  split at h4
                  · cases h4
                    exact tz_n _
                  · cases h4
                    intro d
                    cases d with
                    | zero => exact Nat.zero_le _
                    | succ d =>
                      have x1 := ih _ _ _ _ h1 d
                      have x2 := ih _ _ _ _ h3 d
                      show 1 + (0 + tr_sz d a.1.1 + tr_sz d w.1.1) ≤ 1 + a.1.2.1 + w.1.2.1
                      omega
      · cases h
theorem wl_s_a (x : Nat × tr_T × Nat × Nat) : ∀ ds : pg_T, wl_s (ds ++ [x]) = wl_s ds + x.2.2.1 := by
  intro ds
  induction ds with
  | nil => show x.2.2.1 + 0 = 0 + x.2.2.1; omega
  | cons q r ih =>
    show q.2.2.1 + wl_s (r ++ [x]) = q.2.2.1 + wl_s r + x.2.2.1
    rw [ih]
    omega
theorem mk_lp_nn (hP : wf_P pg) : ∀ (F k : Nat) (ds : pg_T) (s : mk_S), F + k = 79 → ds.length = k → k ≤ s.1.length → mk_ok pg s.1 → wl_D pg ds s → gd (fun q => q.1.length = q.2.1.length ∧ mk_ok pg q.2.1 ∧ wl_D pg q.1 q.2) (mk_lp pg F k ds s) := by
  intro F
  induction F with
  | zero =>
    intro k ds s hF hk hks hok _
    have := mk_ok_len hok
    have := hP.1
    omega
  | succ F ih =>
    intro k ds s hF hk hks hok hD
    unfold mk_lp
    cases e : s.1[k]? with
    | none =>
      have := List.getElem?_eq_none_iff.mp e
      exact ⟨by show ds.length = s.1.length; omega, hok, hD⟩
    | some v =>
      obtain ⟨hkl, hv⟩ := List.getElem?_eq_some_iff.mp e
      have hvm := hok.1 v (by rw [← hv]; exact List.getElem_mem hkl)
      have ear : mk_ar pg s.1 k = mk_lf v.2.1 (pg_n pg v.1) := by
        unfold mk_ar
        rw [e]
      have hn := mk_nn_t hP 96 (mk_e (pg_n pg v.1) v) s _ _ (fun i => i < mk_ar pg s.1 k) (hP.2.2 v.1 hvm.1) (fun i hi => by
        have hi : i < pg_n pg v.1 := hi
        have h4 := hP.2.1 v.1
        unfold mk_e
        rw [if_pos hi]
        refine ⟨_, rfl, fun z => ?_⟩
        cases hb : mk_bt v.2.1 i with
        | true => rw [hb] at z; cases z
        | false =>
          refine ⟨mk_lf v.2.1 i, by have := mk_lf_le v.2.1 i; omega, rfl, ?_⟩
          have := mk_lf_mono v.2.1 (i + 1) (pg_n pg v.1) (by omega)
          have e1 : mk_lf v.2.1 (i + 1) = mk_lf v.2.1 i + 1 := by
            show mk_lf v.2.1 i + (if mk_bt v.2.1 i = true then 0 else 1) = _
            rw [hb]
            rfl
          rw [ear]
          omega) hok
      dsimp only
      cases e2 : mk pg 96 (mk_e (pg_n pg v.1) v) s ((pg_P pg).getD v.1 tr_z) with
      | error u =>
        rw [e2] at hn
        cases u with
        | none => exact hn.elim
        | some u => trivial
      | ok q =>
        rw [e2] at hn
        obtain ⟨-, n2, n3, n4⟩ := hn
        obtain ⟨g1, g2, -⟩ := mk_gs _ _ _ _ _ e2
        have tz := mk_tz _ _ _ _ _ e2
        obtain ⟨d1, d2, d3⟩ := hD
        have hpl := n2.length_le
        refine ih (k + 1) _ q.2.2 (by omega) (by rw [List.length_append]; show ds.length + 1 = k + 1; omega) (by omega) n3 ⟨fun j hj => ?_, by rw [wl_s_a]; show wl_s ds + q.1.2.1 ≤ _; omega, g2 d3⟩
        rw [List.length_append] at hj
        have hj : j < ds.length + 1 := hj
        by_cases ej : j < ds.length
        · rw [List.getElem_append_left ej]
          obtain ⟨x1, x2, x3⟩ := d1 j ej
          refine ⟨by rw [x1, mk_ar_pre n2 (by omega)], ?_, x3⟩
          rw [mk_ar_pre n2 (show j < s.1.length by omega)]
          exact wf_pre n2 x2
        · have ej : j = k := by omega
          subst ej
          rw [List.getElem_append_right (by omega)]
          have e3 : ∀ (w : Nat × tr_T × Nat × Nat) (h : j - ds.length < [w].length), [w][j - ds.length] = w := fun w h => by
            have : j - ds.length = 0 := by omega
            simp only [this, List.getElem_cons_zero]
          rw [e3]
          refine ⟨by rw [mk_ar_pre n2 hkl, ear], ?_, tz⟩
          rw [mk_ar_pre n2 hkl]
          exact n4
theorem mk_all_nn (hP : wf_P pg) (hf : f < pg.length) (hm : m < 2 ^ pg_n pg f) : gd (fun q => q.1.length = q.2.1.length ∧ mk_ok pg q.2.1 ∧ wl_D pg q.1 q.2) (mk_all pg f m kn) := by
  refine mk_lp_nn hP 79 0 [] _ rfl rfl (Nat.zero_le _) ?_ ⟨fun j hj => absurd hj (Nat.not_lt_zero _), Nat.le_refl _, Nat.zero_le _⟩
  exact mk_ok_add (vs := []) ⟨fun q hq => absurd hq List.not_mem_nil, fun q hq => absurd hq List.not_mem_nil, List.nodup_nil⟩ hf hm (Or.inl (by decide))
theorem pr_ps_l : ∀ q i, (pr_ps q i).length ≤ 3 * q := by
  intro q
  induction q with
  | zero => intro i; exact Nat.le_refl _
  | succ q ih =>
    intro i
    have e17 : (pr_x 17).length = 2 := by decide +kernel
    have := ih (i + 1)
    show ((if i = 0 then [] else pr_x 17) ++ (97 + Int32.ofNat i) :: pr_ps q (i + 1)).length ≤ _
    rw [List.length_append, List.length_cons]
    split
    · show 0 + _ ≤ _
      omega
    · omega
theorem pr_vs_nn (hl : L ≤ 78) : ∀ (ds : pg_T) (c : Nat), (∀ d, d ∈ ds → d.1 ≤ 4 ∧ wf_t fr L ar 96 (fun i => i < d.1) d.2.1 ∧ tr_sz 96 d.2.1 ≤ d.2.2.1) → ∃ l, pr_vs c ds = some l ∧ l.length ≤ 30 * ds.length + 24 * wl_s ds := by
  intro ds
  induction ds with
  | nil => intro c _; exact ⟨[], rfl, Nat.zero_le _⟩
  | cons q r ih =>
    intro c h
    obtain ⟨l2, e2, h2⟩ := ih (c + 1) (fun d hd => h d (List.mem_cons_of_mem _ hd))
    obtain ⟨a1, a2, a3⟩ := h q List.mem_cons_self
    obtain ⟨l1, s1, e1, -, h1⟩ := pr_nn (pn := q.1) hl 96 (0, fun _ => none) q.2.1 _ a2 (fun i hi => Or.inl hi)
    have ev : pr_v c q.1 q.2.1 = some (118 :: pr_n c ++ 40 :: pr_ps q.1 0 ++ pr_x 18 ++ l1 ++ pr_x 19) := by
      unfold pr_v
      rw [e1]
    have l18 : (pr_x 18).length = 4 := by decide +kernel
    have l19 : (pr_x 19).length = 2 := by decide +kernel
    refine ⟨_, by unfold pr_vs; rw [ev, e2], ?_⟩
    rw [List.length_append, List.length_append, List.length_append, List.length_append, List.length_append, List.length_cons, List.length_cons, l18, l19]
    have x1 := pr_n_l c
    have x2 := pr_ps_l q.1 0
    show _ ≤ 30 * (r.length + 1) + 24 * (q.2.2.1 + wl_s r)
    omega
end Wf4
end
