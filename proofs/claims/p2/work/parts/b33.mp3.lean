/-! The reference's printing: trees. -/
def pm_sx (k : Int32) : Int64 := if k = 6 then 2108192 else if k = 7 then 2108704 else if k = 8 then 2107936 else if k = 9 then 2112544 else 540884256
section Mp3
variable {B pn k n m k' y z d r j g lo hi al ah i : Nat} {l l0 l1 l2 : List Int32} {S0 S S' S1 S2 : wd_S} {t : tr_T} {s s' s0 s1 : pr_S} {its : List pm_I} {x v : Int32} {e : Int64}
theorem pm_n (hp : pm_h S0 pn k n s S) : S.1 143 y = S0.1 143 y ∧ S.1 144 y = S0.1 144 y ∧ S.1 145 y = S0.1 145 y ∧ S.1 146 y = S0.1 146 y ∧ S.1 149 y = S0.1 149 y := ⟨hp.1.1 _ _ (by unfold pm_W; omega), hp.1.1 _ _ (by unfold pm_W; omega), hp.1.1 _ _ (by unfold pm_W; omega), hp.1.1 _ _ (by unfold pm_W; omega), hp.1.1 _ _ (by unfold pm_W; omega)⟩
theorem pm_pushx (hR : pm_R S0 pn k n l0 (k + its.length) s0 S1 S) (hst : pm_st k its S) (hk : k + its.length < 4000) (hn : n + l0.length ≤ 40000) (t : tr_T) : ∃ S', fn_Mo_later 2 (Int32.ofNat z) S = some S' ∧ pm_R S0 pn k n l0 (k + its.length + 1) s0 S1 S' ∧ pm_st k ((0, some (z, t)) :: its) S' := by
  obtain ⟨S', f', r', e1, e2⟩ := pm_px (z := z) hR.1 hk hn
  have := pm_R_cat hR (pm_R_le (Nat.le_add_right _ _) r')
  rw [List.append_nil] at this
  exact ⟨S', f', this, ⟨e1, e2⟩, pm_st_o its (Nat.le_refl _) r'.2.1 hst⟩
theorem pm_pushb (hR : pm_R S0 pn k n l0 (k + its.length) s0 S1 S) (hst : pm_st k its S) (hk : k + its.length < 4000) (hn : n + l0.length ≤ 40000) : ∃ S', fn_Mo_bytesLater e S = some S' ∧ pm_R S0 pn k n l0 (k + its.length + 1) s0 S1 S' ∧ pm_st k ((e, none) :: its) S' := by
  obtain ⟨S', f', r', e1, e2⟩ := pm_pb (e := e) hR.1 hk hn
  have := pm_R_cat hR (pm_R_le (Nat.le_add_right _ _) r')
  rw [List.append_nil] at this
  exact ⟨S', f', this, ⟨e1, e2⟩, pm_st_o its (Nat.le_refl _) r'.2.1 hst⟩
def pm_E (S0 : wd_S) (pn k n y : Nat) (s : pr_S) (S S1 : wd_S) : Prop := pm_h S0 pn k n s S1 ∧ of_f (pm_V k n n) S S1 ∧ ∀ S', fn_Mo_onExpression (Int32.ofNat y) S1 = some S' → pm_go 1 S S'
/-- what is laid at once, then the tasks -/
theorem pm_fin {X : Nat} (hS : pm_S S0 X lo hi al ah pn r) (hE : pm_E S0 pn k n y s S S1) (hf : fn_Mo_onExpression (Int32.ofNat y) S1 = some S2) (hR : pm_R S0 pn k n l0 (k + its.length) s0 S1 S2) (hst : pm_st k its S2) (hit : ∀ i, i ∈ its → match i.2 with | none => 1 ≤ (pr_8 i.1).length | some q => ∃ d, mj_t S0 X lo hi al ah d q.1 q.2) (he : pr_b (some (l0, s0)) (pr_its (pr pn r) its) = some (l, s')) (h0 : 1 ≤ l0.length) (hn : n + l.length ≤ 40000) (hk : k + its.length + 10 * r ≤ 3900) : ∃ g S', pm_go g S S' ∧ g ≤ l.length ∧ pm_R S0 pn k n l k s' S S' := by
  obtain ⟨la, sa, lb, q1, q2, ql⟩ := pr_b_ok he
  cases q1
  subst ql
  rw [List.length_append] at hn
  obtain ⟨g2, S3, go2, le2, r2⟩ := pm_run hS its (n + l0.length) s0 S2 lb s' hR.1 hst hit q2 (by omega) hk
  have rr := pm_R_cat hR r2
  exact ⟨1 + g2, S3, pm_t_g (hE.2.2 S2 hf) go2, by rw [List.length_append]; omega, rr.1, of_trans (of_mono (fun a b q => by unfold pm_V at *; omega) hE.2.1) rr.2.1, rr.2.2⟩
theorem pr_b_n (l : List Int32) (s : pr_S) : pr_b (some (l, s)) (fun s => some ([], s)) = some (l, s) := by
  show some (l ++ [], s) = _
  rw [List.append_nil]
theorem pr_b_0 (s : pr_S) (f : pr_S → pr_O) : pr_b (some ([], s)) f = f s := by
  unfold pr_b
  dsimp only
  cases f s with
  | none => rfl
  | some w => rfl
theorem pm_41 : pr_8 41 = [41] := by decide +kernel
theorem pm_sgn {X : Nat} (hS : pm_S S0 X lo hi al ah pn r) (hE : pm_E S0 pn k n y s S S1) (hy : y < 15010) (hk : tr_k t = 6 ∨ tr_k t = 7 ∨ tr_k t = 8 ∨ tr_k t = 9 ∨ tr_k t = 10) (h143 : S0.1 143 y = 1) (h146 : S0.1 146 y = lx_cv (tr_k t)) {z0 z1 : Nat} (h144 : S0.1 144 y = Int32.ofNat z0) (h145 : S0.1 145 y = Int32.ofNat z1) (t0 : mj_t S0 X lo hi al ah d z0 (tr_sub t 0)) (t1 : mj_t S0 X lo hi al ah d z1 (tr_sub t 1)) (hkk : k + 10 * (r + 1) ≤ 3900) (he : pr_b (some ([40], s)) (fun s => pr_b (pr pn r s (tr_sub t 0)) fun s => pr_b (some (pr_x (pr_sx (tr_k t)), s)) fun s => pr_b (pr pn r s (tr_sub t 1)) fun s => some ([41], s)) = some (l, s')) (hn : n + l.length ≤ 40000) : ∃ g S', pm_go g S S' ∧ g ≤ l.length ∧ pm_R S0 pn k n l k s' S S' := by
  have hp := hE.1
  have hn0 : n + 1 ≤ 40000 := by
    obtain ⟨la, sa, lb, q1, q2, ql⟩ := pr_b_ok he
    cases q1
    rw [ql, List.length_append] at hn
    have : ([40] : List Int32).length = 1 := rfl
    omega
  obtain ⟨Sa, fa, oa⟩ := mp_lay (x := 40) n S1 hp.2.2.1 hn0
  have ra := pm_out hp oa
  obtain ⟨Sb, fb, rb, sb⟩ := pm_pushb (e := 41) (its := []) ra trivial (by show k + 0 < 4000; omega) hn0
  obtain ⟨Sc, fc, rc, sc⟩ := pm_pushx (z := z1) rb sb (by show k + 1 < 4000; omega) hn0 (tr_sub t 1)
  obtain ⟨Sd, fd, rd, sd⟩ := pm_pushb (e := pm_sx (tr_k t)) rc sc (by show k + 2 < 4000; omega) hn0
  obtain ⟨Se, fe, re, se⟩ := pm_pushx (z := z0) rd sd (by show k + 3 < 4000; omega) hn0 (tr_sub t 0)
  obtain ⟨n3, n4, n5, n6, -⟩ := pm_n (y := y) hp
  have hx8 : pr_8 (pm_sx (tr_k t)) = pr_x (pr_sx (tr_k t)) ∧ 1 ≤ (pr_8 (pm_sx (tr_k t))).length := by
    rcases hk with z | z | z | z | z <;> rw [z] <;> decide +kernel
  have ecode : fn_Mo_onExpression (Int32.ofNat y) S1 = some Se := by
    have e213 : fn_Mo_onExpression_213 (Int32.ofNat y) (pm_sx (tr_k t)) Sc = some Se := by
      unfold fn_Mo_onExpression_213 fn_Mo_onExpression_533
      rw [fd, wd_d_s, if_neg (ms_in hy (by decide)), im_t (show y < 2147483648 by omega), (pm_n (y := y) rd.1).2.1, h144, fe, wd_d_s]
    unfold fn_Mo_onExpression
    rw [if_neg (ms_in hy (by decide)), im_t (show y < 2147483648 by omega), n3, h143, if_pos rfl, if_neg (ms_iy hy (by decide)), fa, wd_d_s, fb, wd_d_s, if_neg (ms_iy hy (by decide)), (pm_n (y := y) rb.1).2.2.1, h145, fc, wd_d_s, n6, h146, ← e213]
    unfold fn_Mo_onExpression_208
    rcases hk with z | z | z | z | z <;> rw [z] <;> rfl
  refine pm_fin hS hE ecode re se (fun i hi => ?_) ?_ (by decide : 1 ≤ ([40] : List Int32).length) hn (by show k + 4 + 10 * r ≤ 3900; omega)
  · simp only [List.mem_cons, List.not_mem_nil, or_false] at hi
    rcases hi with rfl | rfl | rfl | rfl
    · exact ⟨d, t0⟩
    · exact hx8.2
    · exact ⟨d, t1⟩
    · show 1 ≤ (pr_8 41).length
      rw [pm_41]
      decide
  · rw [← he]
    show pr_b (some ([40], s)) (fun s => pr_b (pr pn r s (tr_sub t 0)) fun s => pr_b (some (pr_8 (pm_sx (tr_k t)), s)) fun s => pr_b (pr pn r s (tr_sub t 1)) fun s => pr_b (some (pr_8 41, s)) fun s => some ([], s)) = _
    rw [hx8.1, pm_41]
    simp only [pr_b_n]
theorem pm_if {X : Nat} (hS : pm_S S0 X lo hi al ah pn r) (hE : pm_E S0 pn k n y s S S1) (hy : y < 15010) (h143 : S0.1 143 y = 2) {z0 z1 z2 : Nat} (h144 : S0.1 144 y = Int32.ofNat z0) (h145 : S0.1 145 y = Int32.ofNat z1) (h146 : S0.1 146 y = Int32.ofNat z2) (t0 : mj_t S0 X lo hi al ah d z0 (tr_sub t 0)) (t1 : mj_t S0 X lo hi al ah d z1 (tr_sub t 1)) (t2 : mj_t S0 X lo hi al ah d z2 (tr_sub t 2)) (hkk : k + 10 * (r + 1) ≤ 3900) (he : pr_b (some (pr_x 24, s)) (fun s => pr_b (pr pn r s (tr_sub t 0)) fun s => pr_b (some (pr_x 25, s)) fun s => pr_b (pr pn r s (tr_sub t 1)) fun s => pr_b (some (pr_x 26, s)) fun s => pr_b (pr pn r s (tr_sub t 2)) fun s => some ([41], s)) = some (l, s')) (hn : n + l.length ≤ 40000) : ∃ g S', pm_go g S S' ∧ g ≤ l.length ∧ pm_R S0 pn k n l k s' S S' := by
  have hp := hE.1
  have x24 : pr_8 677996064 = pr_x 24 := by decide +kernel
  have x25 : pr_8 35684339772960 = pr_x 25 := by decide +kernel
  have x26 : pr_8 35619983287584 = pr_x 26 := by decide +kernel
  have hn0 : n + (pr_x 24).length ≤ 40000 := by
    obtain ⟨la, sa, lb, q1, q2, ql⟩ := pr_b_ok he
    cases q1
    rw [ql, List.length_append] at hn
    omega
  obtain ⟨Sa, fa, oa⟩ := mp_all (e := 677996064) n S1 hp.2.2.1 (by rw [x24]; exact hn0)
  rw [x24] at oa
  have ra := pm_out hp oa
  obtain ⟨Sb, fb, rb, sb⟩ := pm_pushb (e := 41) (its := []) ra trivial (by show k + 0 < 4000; omega) hn0
  obtain ⟨Sc, fc, rc, sc⟩ := pm_pushx (z := z2) rb sb (by show k + 1 < 4000; omega) hn0 (tr_sub t 2)
  obtain ⟨Sd, fd, rd, sd⟩ := pm_pushb (e := 35619983287584) rc sc (by show k + 2 < 4000; omega) hn0
  obtain ⟨Se, fe, re, se⟩ := pm_pushx (z := z1) rd sd (by show k + 3 < 4000; omega) hn0 (tr_sub t 1)
  obtain ⟨Sf, ff, rf, sf⟩ := pm_pushb (e := 35684339772960) re se (by show k + 4 < 4000; omega) hn0
  obtain ⟨Sg, fg, rg, sg⟩ := pm_pushx (z := z0) rf sf (by show k + 5 < 4000; omega) hn0 (tr_sub t 0)
  obtain ⟨n3, n4, n5, n6, -⟩ := pm_n (y := y) hp
  have a24 : ∀ S, fn_Mo_eight 0 0 40 105 102 32 S = some (677996064, S) := fun S => by unfold fn_Mo_eight; congr 2
  have a25 : ∀ S, fn_Mo_eight 32 116 104 101 110 32 S = some (35684339772960, S) := fun S => by unfold fn_Mo_eight; congr 2
  have a26 : ∀ S, fn_Mo_eight 32 101 108 115 101 32 S = some (35619983287584, S) := fun S => by unfold fn_Mo_eight; congr 2
  have ecode : fn_Mo_onExpression (Int32.ofNat y) S1 = some Sg := by
    unfold fn_Mo_onExpression fn_Mo_onExpression_533
    rw [if_neg (ms_in hy (by decide)), im_t (show y < 2147483648 by omega), n3, h143, if_neg (show ¬(2 : Int32) = 1 by decide), if_pos rfl, a24, wd_c_s, fa, wd_d_s, fb, wd_d_s, if_neg (ms_iy hy (by decide)), (pm_n (y := y) rb.1).2.2.2.1, h146, fc, wd_d_s, a26, wd_c_s, fd, wd_d_s, if_neg (ms_iy hy (by decide)), (pm_n (y := y) rd.1).2.2.1, h145, fe, wd_d_s, a25, wd_c_s, ff, wd_d_s, if_neg (ms_iy hy (by decide)), (pm_n (y := y) rf.1).2.1, h144, fg, wd_d_s]
  refine pm_fin hS hE ecode rg sg (fun i hi => ?_) ?_ (by decide) hn (by show k + 6 + 10 * r ≤ 3900; omega)
  · simp only [List.mem_cons, List.not_mem_nil, or_false] at hi
    rcases hi with rfl | rfl | rfl | rfl | rfl | rfl
    · exact ⟨d, t0⟩
    · show 1 ≤ (pr_8 35684339772960).length
      rw [x25]; decide
    · exact ⟨d, t1⟩
    · show 1 ≤ (pr_8 35619983287584).length
      rw [x26]; decide
    · exact ⟨d, t2⟩
    · show 1 ≤ (pr_8 41).length
      rw [pm_41]; decide
  · rw [← he]
    show pr_b (some (pr_x 24, s)) (fun s => pr_b (pr pn r s (tr_sub t 0)) fun s => pr_b (some (pr_8 35684339772960, s)) fun s => pr_b (pr pn r s (tr_sub t 1)) fun s => pr_b (some (pr_8 35619983287584, s)) fun s => pr_b (pr pn r s (tr_sub t 2)) fun s => pr_b (some (pr_8 41, s)) fun s => some ([], s)) = _
    rw [x25, x26, pm_41]
    simp only [pr_b_n]
end Mp3
