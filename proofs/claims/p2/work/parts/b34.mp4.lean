/-! The reference's printing: lets, calls, leaves. -/
def pm_al (zs : Nat → Nat) (t : tr_T) : Nat → Nat → List pm_I
  | 0, _ => [(41, none)]
  | r + 1, j => if j = 0 then (0, some (zs j, tr_sub t j)) :: pm_al zs t r (j + 1) else (11296, none) :: (0, some (zs j, tr_sub t j)) :: pm_al zs t r (j + 1)
section Mp4
variable {B pn k n m k' y z d r j g lo hi al ah i X a : Nat} {l l0 l1 l2 : List Int32} {S0 S S' S1 S2 : wd_S} {t : tr_T} {s s' s0 s1 : pr_S} {its : List pm_I} {x v : Int32} {e : Int64} {zs : Nat → Nat}
theorem pm_w178 (hp : pm_h S0 pn k n s S) (hi : i < 16) : pm_R S0 pn k n [] k (s.1, pr_u s.2 i s.1) S (wd_i S 178 i (Int32.ofNat s.1)) := by
  obtain ⟨a1, a2, a3, a4, a5, a6⟩ := hp
  have o1 : of_f (fun a b => a = 178 ∧ b = i) S (wd_i S 178 i (Int32.ofNat s.1)) := of_i ⟨rfl, rfl⟩ of_refl
  refine ⟨⟨of_trans a1 (of_mono (fun a b q => by unfold pm_W; omega) o1), by rw [o1.1 135 76 (by omega)]; exact a2, by rw [o1.1 135 88 (by omega)]; exact a3, by rw [o1.1 135 92 (by omega)]; exact a4, a5, fun i' j hij => ?_⟩, of_mono (fun a b q => by unfold pm_V; omega) o1, fun j hj => absurd hj (Nat.not_lt_zero _)⟩
  have hij : pr_u s.2 i s.1 i' = some j := hij
  unfold pr_u at hij
  by_cases e : i' = i
  · rw [if_pos e] at hij
    cases hij
    subst e
    exact ⟨hi, fr_eq, a5⟩
  · rw [if_neg e] at hij
    obtain ⟨b1, b2, b3⟩ := a6 i' j hij
    exact ⟨b1, by rw [o1.1 178 i' (by omega)]; exact b2, b3⟩
theorem pm_w92 (hp : pm_h S0 pn k n s S) (hs : s.1 + 1 ≤ n) : pm_R S0 pn k n [] k (s.1 + 1, s.2) S (wd_i S 135 92 (Int32.ofNat (s.1 + 1))) := by
  obtain ⟨a1, a2, a3, a4, a5, a6⟩ := hp
  have o1 : of_f (fun a b => a = 135 ∧ b = 92) S (wd_i S 135 92 (Int32.ofNat (s.1 + 1))) := of_i ⟨rfl, rfl⟩ of_refl
  refine ⟨⟨of_trans a1 (of_mono (fun a b q => by unfold pm_W; omega) o1), by rw [o1.1 135 76 (by omega)]; exact a2, by rw [o1.1 135 88 (by omega)]; exact a3, fr_eq, hs, fun i' j hij => ?_⟩, of_mono (fun a b q => by unfold pm_V; omega) o1, fun j hj => absurd hj (Nat.not_lt_zero _)⟩
  obtain ⟨b1, b2, b3⟩ := a6 i' j hij
  exact ⟨b1, by rw [o1.1 178 i' (by omega)]; exact b2, b3⟩
theorem pr_n_1 (n : Nat) : 1 ≤ (pr_n n).length := by
  unfold pr_n
  rw [pr_d_l]
  omega
theorem pr_i_1 (v : Int32) : 1 ≤ (pr_i v).length := by
  unfold pr_i
  split
  · decide
  · split
    · show 1 ≤ (pr_n _).length + 1
      omega
    · exact pr_n_1 _
theorem pm_let (hS : pm_S S0 X lo hi al ah pn r) (hE : pm_E S0 pn k n y s S S1) (hy : y < 15010) (h143 : S0.1 143 y = 3) {z0 z1 : Nat} (h144 : S0.1 144 y = Int32.ofNat z0) (h145 : S0.1 145 y = Int32.ofNat z1) (h146 : S0.1 146 y = Int32.ofNat i) (hi16 : i < 16) (t0 : mj_t S0 X lo hi al ah d z0 (tr_sub t 0)) (t1 : mj_t S0 X lo hi al ah d z1 (tr_sub t 1)) (hkk : k + 10 * (r + 1) ≤ 3900) (he : pr_b (some (pr_x 21 ++ pr_n s.1 ++ pr_x 22, s.1 + 1, pr_u s.2 i s.1)) (fun s => pr_b (pr pn r s (tr_sub t 0)) fun s => pr_b (some (pr_x 23, s)) fun s => pr_b (pr pn r s (tr_sub t 1)) fun s => some ([41], s)) = some (l, s')) (hn : n + l.length ≤ 40000) : ∃ g S', pm_go g S S' ∧ g ≤ l.length ∧ pm_R S0 pn k n l k s' S S' := by
  have hp := hE.1
  have x21 : pr_8 44446023688312 = pr_x 21 := by decide +kernel
  have x22 : pr_8 2112800 = pr_x 22 := by decide +kernel
  have x23 : pr_8 543780384 = pr_x 23 := by decide +kernel
  have l21 : (pr_x 21).length = 6 := by decide +kernel
  have l22 : (pr_x 22).length = 3 := by decide +kernel
  have hs1 := hp.2.2.2.2.1
  have hn0 : n + (6 + (pr_n s.1).length + 3) ≤ 40000 := by
    obtain ⟨la, sa, lb, q1, q2, ql⟩ := pr_b_ok he
    cases q1
    rw [ql, List.length_append, List.length_append, List.length_append, l21, l22] at hn
    omega
  have ra := pm_w178 (i := i) hp hi16
  obtain ⟨Sb, fb, ob⟩ := mp_all (e := 44446023688312) n (wd_i S1 178 i (Int32.ofNat s.1)) ra.1.2.2.1 (by rw [x21, l21]; omega)
  rw [x21] at ob
  have rb := pm_R_cat ra (pm_out ra.1 ob)
  rw [List.nil_append] at rb
  obtain ⟨Sc, fc, oc⟩ := mp_num (m := s.1) (by omega) (n + (pr_x 21).length) Sb rb.1.2.2.1 (by rw [l21]; omega)
  have rc := pm_R_cat rb (pm_out rb.1 oc)
  have rd := pm_R_cat rc (pm_w92 rc.1 (by rw [List.length_append, l21]; show s.1 + 1 ≤ _; omega))
  rw [List.append_nil] at rd
  obtain ⟨Se, fe, oe⟩ := mp_all (e := 2112800) (n + (pr_x 21 ++ pr_n s.1).length) _ rd.1.2.2.1 (by rw [x22, l22, List.length_append, l21]; omega)
  rw [x22] at oe
  have re := pm_R_cat rd (pm_out rd.1 oe)
  have hn1 : n + (pr_x 21 ++ pr_n s.1 ++ pr_x 22).length ≤ 40000 := by
    rw [List.length_append, List.length_append, l21, l22]
    omega
  obtain ⟨Sf, ff, rf, sf⟩ := pm_pushb (e := 41) (its := []) re trivial (by show k + 0 < 4000; omega) hn1
  obtain ⟨Sg, fg, rg, sg⟩ := pm_pushx (z := z1) rf sf (by show k + 1 < 4000; omega) hn1 (tr_sub t 1)
  obtain ⟨Sh, fh, rh, sh⟩ := pm_pushb (e := 543780384) rg sg (by show k + 2 < 4000; omega) hn1
  obtain ⟨Si, fi, ri, si⟩ := pm_pushx (z := z0) rh sh (by show k + 3 < 4000; omega) hn1 (tr_sub t 0)
  obtain ⟨n3, n4, n5, n6, -⟩ := pm_n (y := y) hp
  have a21 : ∀ S, fn_Mo_eight 40 108 101 116 32 120 S = some (44446023688312, S) := fun S => by unfold fn_Mo_eight; congr 2
  have a22 : ∀ S, fn_Mo_eight 0 0 0 32 61 32 S = some (2112800, S) := fun S => by unfold fn_Mo_eight; congr 2
  have a23 : ∀ S, fn_Mo_eight 0 0 32 105 110 32 S = some (543780384, S) := fun S => by unfold fn_Mo_eight; congr 2
  have b92 : Sb.1 135 92 = Int32.ofNat s.1 := rb.1.2.2.2.1
  have c92 : Sc.1 135 92 = Int32.ofNat s.1 := rc.1.2.2.2.1
  have ecode : fn_Mo_onExpression (Int32.ofNat y) S1 = some Si := by
    unfold fn_Mo_onExpression fn_Mo_onExpression_533
    simp only [wd_b]
    rw [if_neg (ms_in hy (by decide)), im_t (show y < 2147483648 by omega), n3, h143, if_neg (show ¬(3 : Int32) = 1 by decide), if_neg (show ¬(3 : Int32) = 2 by decide), if_pos rfl, if_neg (ms_iy hy (by decide)), n6, h146, if_neg (ms_in hi16 (by decide)), im_t (show i < 2147483648 by omega), hp.2.2.2.1, a21, wd_c_s, fb, wd_d_s, b92, fc, wd_d_s, c92, im_s, a22, wd_c_s, fe, wd_d_s, ff, wd_d_s, if_neg (ms_iy hy (by decide)), (pm_n (y := y) rf.1).2.2.1, h145, fg, wd_d_s, a23, wd_c_s, fh, wd_d_s, if_neg (ms_iy hy (by decide)), (pm_n (y := y) rh.1).2.1, h144, fi, wd_d_s]
  refine pm_fin hS hE ecode ri si (fun i hi => ?_) ?_ (by rw [List.length_append, List.length_append, l21]; omega) hn (by show k + 4 + 10 * r ≤ 3900; omega)
  · simp only [List.mem_cons, List.not_mem_nil, or_false] at hi
    rcases hi with rfl | rfl | rfl | rfl
    · exact ⟨d, t0⟩
    · show 1 ≤ (pr_8 543780384).length
      rw [x23]; decide
    · exact ⟨d, t1⟩
    · show 1 ≤ (pr_8 41).length
      rw [pm_41]; decide
  · rw [← he]
    show pr_b (some (pr_x 21 ++ pr_n s.1 ++ pr_x 22, s.1 + 1, pr_u s.2 i s.1)) (fun s => pr_b (pr pn r s (tr_sub t 0)) fun s => pr_b (some (pr_8 543780384, s)) fun s => pr_b (pr pn r s (tr_sub t 1)) fun s => pr_b (some (pr_8 41, s)) fun s => some ([], s)) = _
    rw [x23, pm_41]
    simp only [pr_b_n]
theorem pm_al_l : ∀ r j, (pm_al zs t r j).length ≤ 2 * r + 1 := by
  intro r
  induction r with
  | zero => intro j; exact Nat.le_refl 1
  | succ r ih =>
    intro j
    have := ih (j + 1)
    unfold pm_al
    split
    · show (pm_al zs t r (j + 1)).length + 1 ≤ _
      omega
    · show (pm_al zs t r (j + 1)).length + 1 + 1 ≤ _
      omega
theorem pm_17 : pr_8 11296 = pr_x 17 := by decide +kernel
theorem pm_al_p : ∀ q j s, pr_its (pr pn r) (pm_al zs t q j) s = pr_as (pr pn r) t q j s := by
  intro q
  induction q with
  | zero =>
    intro j s
    show pr_b (some (pr_8 41, s)) (fun s => some ([], s)) = some ([41], s)
    rw [pr_b_n, pm_41]
  | succ q ih =>
    intro j s
    have e : pr_its (pr pn r) (pm_al zs t q (j + 1)) = pr_as (pr pn r) t q (j + 1) := funext fun s => ih (j + 1) s
    unfold pm_al pr_as
    by_cases h : j = 0
    · rw [if_pos h, if_pos h, pr_b_0]
      show pr_b (pr pn r s (tr_sub t j)) (pr_its (pr pn r) (pm_al zs t q (j + 1))) = _
      rw [e]
    · rw [if_neg h, if_neg h]
      show pr_b (some (pr_8 11296, s)) (fun s => pr_b (pr pn r s (tr_sub t j)) (pr_its (pr pn r) (pm_al zs t q (j + 1)))) = _
      rw [e, pm_17]
theorem pm_al_i (hz : ∀ j, j < a → ∃ d, mj_t S0 X lo hi al ah d (zs j) (tr_sub t j)) : ∀ q j, q + j = a → ∀ i, i ∈ pm_al zs t q j → match i.2 with | none => 1 ≤ (pr_8 i.1).length | some q => ∃ d, mj_t S0 X lo hi al ah d q.1 q.2 := by
  intro q
  induction q with
  | zero =>
    intro j hj i hi
    have hi : i ∈ [((41 : Int64), (none : Option (Nat × tr_T)))] := hi
    simp only [List.mem_cons, List.not_mem_nil, or_false] at hi
    subst hi
    show 1 ≤ (pr_8 41).length
    rw [pm_41]; decide
  | succ q ih =>
    intro j hj i hi
    unfold pm_al at hi
    by_cases h : j = 0
    · rw [if_pos h, List.mem_cons] at hi
      rcases hi with rfl | hi
      · exact hz j (by omega)
      · exact ih (j + 1) (by omega) i hi
    · rw [if_neg h, List.mem_cons, List.mem_cons] at hi
      rcases hi with rfl | rfl | hi
      · show 1 ≤ (pr_8 11296).length
        rw [pm_17]; decide
      · exact hz j (by omega)
      · exact ih (j + 1) (by omega) i hi
theorem pm_486 (hy : y < 15010) (ha : a ≤ 4) (h144 : S0.1 144 y = Int32.ofNat g) (hg : g + a ≤ 15010) (h149 : ∀ j, j < a → S0.1 149 (g + j) = Int32.ofNat (zs j)) (hk : k + 9 < 4000) (hn : n + l0.length ≤ 40000) : ∀ (q p F : Nat) (S : wd_S), q + p = a → q < F → pm_R S0 pn k n l0 (k + (pm_al zs t p q).length) s0 S1 S → pm_st k (pm_al zs t p q) S → ∃ S', fn_Mo_onExpression_486 F (Int32.ofNat y) (Int32.ofNat q - 1) S = some S' ∧ pm_R S0 pn k n l0 (k + (pm_al zs t a 0).length) s0 S1 S' ∧ pm_st k (pm_al zs t a 0) S' := by
  intro q
  induction q with
  | zero =>
    intro p F S hp hF hR hst
    obtain ⟨F, rfl⟩ : ∃ f, F = f + 1 := ⟨F - 1, by omega⟩
    rw [show p = a by omega] at hR hst
    refine ⟨S, ?_, hR, hst⟩
    rw [fn_Mo_onExpression_486, if_pos (show Int32.ofNat 0 - 1 < 0 by decide)]
    rfl
  | succ q ih =>
    intro p F S hp hF hR hst
    obtain ⟨F, rfl⟩ : ∃ f, F = f + 1 := ⟨F - 1, by omega⟩
    have hl := pm_al_l (zs := zs) (t := t) p (q + 1)
    have ea : Int32.ofNat g + Int32.ofNat q = Int32.ofNat (g + q) := (Int32.ofNat_add g q).symm
    obtain ⟨Sa, fa, ra, sa⟩ := pm_pushx (z := zs q) hR hst (by omega) hn (tr_sub t q)
    have er : Int32.ofNat q + -1 = Int32.ofNat q - 1 := by rw [Int32.sub_eq_add_neg]
    rw [fn_Mo_onExpression_486, im_p, if_neg (im_neg (by omega)), if_neg (ms_in hy (by decide)), im_t (show y < 2147483648 by omega), (pm_n (y := y) hR.1).2.1, h144, ea, if_neg (ms_in (show g + q < 15010 by omega) (by decide)), im_t (show g + q < 2147483648 by omega), (pm_n (y := g + q) hR.1).2.2.2.2, h149 q (by omega), fa, wd_d_s]
    unfold fn_Mo_onExpression_527
    rw [er]
    have a17 : ∀ S, fn_Mo_eight 0 0 0 0 44 32 S = some (11296, S) := fun S => by unfold fn_Mo_eight; congr 2
    by_cases h : q = 0
    · rw [if_neg (show ¬(0 : Int32) < Int32.ofNat q by rw [h]; decide)]
      have e : pm_al zs t (p + 1) q = (0, some (zs q, tr_sub t q)) :: pm_al zs t p (q + 1) := by rw [pm_al, if_pos h]
      exact ih (p + 1) F Sa (by omega) (by omega) (by rw [e]; exact ra) (by rw [e]; exact sa)
    · rw [if_pos (show (0 : Int32) < Int32.ofNat q from (im_lt (m := 0) (n := q) (by omega) (by omega)).mpr (by omega)), a17, wd_c_s]
      obtain ⟨Sb, fb, rb, sb⟩ := pm_pushb (e := 11296) ra sa (by show k + ((pm_al zs t p (q + 1)).length + 1) < 4000; omega) hn
      rw [fb, wd_d_s]
      have e : pm_al zs t (p + 1) q = (11296, none) :: (0, some (zs q, tr_sub t q)) :: pm_al zs t p (q + 1) := by rw [pm_al, if_neg h]
      exact ih (p + 1) F Sb (by omega) (by omega) (by rw [e]; exact rb) (by rw [e]; exact sb)
theorem pm_call (hS : pm_S S0 (80 * B) lo hi al ah pn r) (hB : B ≤ 1) (hE : pm_E S0 pn k n y s S S1) (hy : y < 15010) (h143 : S0.1 143 y = 8) (h144 : S0.1 144 y = Int32.ofNat g) (h145 : S0.1 145 y = Int32.ofNat a) (h146 : S0.1 146 y = Int32.ofNat (80 * B + i)) (hi78 : i < 78) (ha : a ≤ 4) (hg : g + a ≤ 15010) (h149 : ∀ j, j < a → S0.1 149 (g + j) = Int32.ofNat (zs j)) (hz : ∀ j, j < a → ∃ d, mj_t S0 (80 * B) lo hi al ah d (zs j) (tr_sub t j)) (hkk : k + 10 * (r + 1) ≤ 3900) (he : pr_b (some (118 :: pr_n i ++ [40], s)) (fun s => pr_as (pr pn r) t a 0 s) = some (l, s')) (hn : n + l.length ≤ 40000) : ∃ g S', pm_go g S S' ∧ g ≤ l.length ∧ pm_R S0 pn k n l k s' S S' := by
  have hp := hE.1
  have e0 : (118 :: pr_n i ++ [40] : List Int32).length = (pr_n i).length + 2 := by rw [List.length_append]; rfl
  have hn0 : n + ((pr_n i).length + 2) ≤ 40000 := by
    obtain ⟨la, sa, lb, q1, q2, ql⟩ := pr_b_ok he
    cases q1
    rw [ql, List.length_append, e0] at hn
    omega
  obtain ⟨Sa, fa, oa⟩ := mp_lay (x := 118) n S1 hp.2.2.1 (by show n + 1 ≤ 40000; omega)
  have ra := pm_out hp oa
  obtain ⟨Sb, fb, ob⟩ := mp_num (m := i) (by omega) (n + [(118 : Int32)].length) Sa ra.1.2.2.1 (by show n + 1 + _ ≤ 40000; omega)
  have rb := pm_R_cat ra (pm_out ra.1 ob)
  obtain ⟨Sc, fc, oc⟩ := mp_lay (x := 40) (n + ([(118 : Int32)] ++ pr_n i).length) Sb rb.1.2.2.1 (by show n + ((pr_n i).length + 1) + 1 ≤ 40000; omega)
  have rc : pm_R S0 pn k n (118 :: pr_n i ++ [40]) k s S1 Sc := pm_R_cat rb (pm_out rb.1 oc)
  have hn1 : n + (118 :: pr_n i ++ [40] : List Int32).length ≤ 40000 := by rw [e0]; omega
  obtain ⟨Sd, fd, rd, sd⟩ := pm_pushb (e := 41) (its := []) rc trivial (by show k + 0 < 4000; omega) hn1
  obtain ⟨Se, fe, re, se⟩ := pm_486 (zs := zs) (t := t) hy ha h144 hg h149 (by omega) hn1 a 0 wd_F Sd rfl (by rw [show wd_F = 1000000 from rfl]; omega) rd sd
  obtain ⟨n3, n4, n5, n6, -⟩ := pm_n (y := y) hp
  have e80 : Int32.ofNat (80 * B + i) - Int32.ofNat (80 * B + i) / 80 * 80 = Int32.ofNat i := by
    rw [im_m80 (by omega)]
    congr 1
    omega
  have ecode : fn_Mo_onExpression (Int32.ofNat y) S1 = some Se := by
    unfold fn_Mo_onExpression
    rw [if_neg (ms_in hy (by decide)), im_t (show y < 2147483648 by omega), n3, h143, if_neg (show ¬(8 : Int32) = 1 by decide), if_neg (show ¬(8 : Int32) = 2 by decide), if_neg (show ¬(8 : Int32) = 3 by decide), if_neg (show ¬(8 : Int32) = 4 by decide), if_neg (show ¬(8 : Int32) = 5 by decide), if_neg (show ¬(8 : Int32) = 6 by decide), if_neg (show ¬(8 : Int32) = 7 by decide), fa, wd_d_s, if_neg (ms_iy hy (by decide)), (pm_n (y := y) ra.1).2.2.2.1, h146, e80, fb, wd_d_s, fc, wd_d_s, fd, wd_d_s, if_neg (ms_iy hy (by decide)), (pm_n (y := y) rd.1).2.2.1, h145, fe]
  have hl := pm_al_l (zs := zs) (t := t) a 0
  refine pm_fin hS hE ecode re se (pm_al_i hz a 0 rfl) ?_ (by rw [e0]; omega) hn (by omega)
  rw [← he]
  congr 1
  funext s
  exact pm_al_p a 0 s
theorem pm_num (hS : pm_S S0 X lo hi al ah pn r) (hE : pm_E S0 pn k n y s S S1) (hy : y < 15010) (h143 : S0.1 143 y = 5) (h144 : S0.1 144 y = v) (hkk : k + 10 * (r + 1) ≤ 3900) (he : some (pr_i v, s) = some (l, s')) (hn : n + l.length ≤ 40000) : ∃ g S', pm_go g S S' ∧ g ≤ l.length ∧ pm_R S0 pn k n l k s' S S' := by
  cases he
  have hp := hE.1
  obtain ⟨Sa, fa, oa⟩ := mp_lnum (v := v) n S1 hp.2.2.1 hn
  have ra := pm_out hp oa
  obtain ⟨n3, n4, n5, n6, -⟩ := pm_n (y := y) hp
  refine pm_fin (its := []) hS hE (S2 := Sa) ?_ ra trivial (fun i hi => absurd hi List.not_mem_nil) (pr_b_n _ _) (pr_i_1 v) hn (by show k + 0 + 10 * r ≤ 3900; omega)
  unfold fn_Mo_onExpression fn_Mo_onExpression_533
  rw [if_neg (ms_in hy (by decide)), im_t (show y < 2147483648 by omega), n3, h143, if_neg (show ¬(5 : Int32) = 1 by decide), if_neg (show ¬(5 : Int32) = 2 by decide), if_neg (show ¬(5 : Int32) = 3 by decide), if_neg (show ¬(5 : Int32) = 4 by decide), if_pos rfl, if_neg (ms_iy hy (by decide)), n4, h144, fa, wd_d_s]
theorem pm_name (hS : pm_S S0 X lo hi al ah pn r) (h93 : S0.1 135 93 = Int32.ofNat pn) (hpn : pn ≤ 16) (hE : pm_E S0 pn k n y s S S1) (hy : y < 15010) (h143 : S0.1 143 y = 7) (h144 : S0.1 144 y = Int32.ofNat i) (hi16 : i < 16) (hkk : k + 10 * (r + 1) ≤ 3900) (he : (if i < pn then some ([97 + Int32.ofNat i], s) else match s.2 i with
    | none => none
    | some j => some (120 :: pr_n j, s)) = some (l, s')) (hn : n + l.length ≤ 40000) : ∃ g S', pm_go g S S' ∧ g ≤ l.length ∧ pm_R S0 pn k n l k s' S S' := by
  have hp := hE.1
  obtain ⟨n3, n4, n5, n6, -⟩ := pm_n (y := y) hp
  have p93 : S1.1 135 93 = Int32.ofNat pn := by rw [hp.1.1 135 93 (by unfold pm_W; omega)]; exact h93
  by_cases h : i < pn
  · rw [if_pos h] at he
    cases he
    obtain ⟨Sa, fa, oa⟩ := mp_lay (x := 97 + Int32.ofNat i) n S1 hp.2.2.1 hn
    have ra := pm_out hp oa
    refine pm_fin (its := []) hS hE (S2 := Sa) ?_ ra trivial (fun i hi => absurd hi List.not_mem_nil) (pr_b_n _ _) (by show 1 ≤ 1; omega) hn (by show k + 0 + 10 * r ≤ 3900; omega)
    unfold fn_Mo_onExpression fn_Mo_onExpression_533
    rw [if_neg (ms_in hy (by decide)), im_t (show y < 2147483648 by omega), n3, h143, if_neg (show ¬(7 : Int32) = 1 by decide), if_neg (show ¬(7 : Int32) = 2 by decide), if_neg (show ¬(7 : Int32) = 3 by decide), if_neg (show ¬(7 : Int32) = 4 by decide), if_neg (show ¬(7 : Int32) = 5 by decide), if_neg (show ¬(7 : Int32) = 6 by decide), if_pos rfl, if_neg (ms_iy hy (by decide)), n4, h144, p93, if_pos ((im_lt (by omega) (by omega)).mpr h), if_neg (ms_iy hy (by decide)), fa, wd_d_s]
  · rw [if_neg h] at he
    cases hj : s.2 i with
    | none => rw [hj] at he; cases he
    | some j =>
      rw [hj] at he
      cases he
      have hn : n + ((pr_n j).length + 1) ≤ 40000 := hn
      obtain ⟨b1, b2, b3⟩ := hp.2.2.2.2.2 i j hj
      obtain ⟨Sa, fa, oa⟩ := mp_lay (x := 120) n S1 hp.2.2.1 (by show n + 1 ≤ 40000; omega)
      have ra := pm_out hp oa
      obtain ⟨Sb, fb, ob⟩ := mp_num (m := j) (by omega) (n + [(120 : Int32)].length) Sa ra.1.2.2.1 (by show n + 1 + _ ≤ 40000; omega)
      have rb : pm_R S0 pn k n (120 :: pr_n j) k s S1 Sb := pm_R_cat ra (pm_out ra.1 ob)
      have a178 : Sa.1 178 i = Int32.ofNat j := (ra.1.2.2.2.2.2 i j hj).2.1
      refine pm_fin (its := []) hS hE (S2 := Sb) ?_ rb trivial (fun i hi => absurd hi List.not_mem_nil) (pr_b_n _ _) (by show 1 ≤ (pr_n j).length + 1; omega) hn (by show k + 0 + 10 * r ≤ 3900; omega)
      unfold fn_Mo_onExpression fn_Mo_onExpression_533
      rw [if_neg (ms_in hy (by decide)), im_t (show y < 2147483648 by omega), n3, h143, if_neg (show ¬(7 : Int32) = 1 by decide), if_neg (show ¬(7 : Int32) = 2 by decide), if_neg (show ¬(7 : Int32) = 3 by decide), if_neg (show ¬(7 : Int32) = 4 by decide), if_neg (show ¬(7 : Int32) = 5 by decide), if_neg (show ¬(7 : Int32) = 6 by decide), if_pos rfl, if_neg (ms_iy hy (by decide)), n4, h144, p93, if_neg (fun q => h ((im_lt (by omega) (by omega)).mp q)), fa, wd_d_s, if_neg (ms_iy hy (by decide)), (pm_n (y := y) ra.1).2.1, h144, if_neg (ms_in hi16 (by decide)), im_t (show i < 2147483648 by omega), a178, fb, wd_d_s]
end Mp4
