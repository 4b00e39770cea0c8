/-! The calls: print, run. -/
section Op5
variable {S S1 S2 : wd_S} {p lim t : Int32} {pg ds : pg_T} {vs : List mk_V} {T : Nat → Int32} {n m : Nat} {pl : Int32} {kn : Nat → Int32} {lo l : List Int32} {r : Nat → Int32}
theorem rl_wf (hD : rl_D pg ds vs n m lo l) : ∀ d, d ∈ ds → d.1 ≤ 4 ∧ wf_t False vs.length (mk_ar pg vs) 96 (fun i => i < d.1) d.2.1 ∧ tr_sz 96 d.2.1 ≤ d.2.2.1 := fun d hd => by
  obtain ⟨-, -, -, -, hP, hl, hok, -, s, rfl, hW⟩ := hD
  obtain ⟨j, hj, rfl⟩ := List.getElem_of_mem hd
  obtain ⟨w1, w2, w3⟩ := hW.1 j hj
  refine ⟨?_, by rw [w1]; exact w2, w3 96⟩
  rw [w1, mk_ar_g (show j < s.1.length by omega)]
  have := mk_lf_le s.1[j].2.1 (pg_n pg s.1[j].1)
  have := hP.2.1 s.1[j].1
  omega
theorem rl_78 (hD : rl_D pg ds vs n m lo l) : vs.length ≤ 78 := by
  have := mk_ok_len hD.2.2.2.2.2.2.1
  have := hD.2.2.2.2.1.1
  omega
theorem rl_pr (hD : rl_D pg ds vs n m lo l) : ∃ k, pr_vs 0 ds = some k ∧ k.length ≤ 40000 := by
  obtain ⟨k, h1, h2⟩ := pr_vs_nn (rl_78 hD) ds 0 (rl_wf hD)
  refine ⟨k, h1, ?_⟩
  have h78 := rl_78 hD
  obtain ⟨-, -, -, -, hP, hl, hok, -, s, rfl, hW⟩ := hD
  have := hW.2.1
  have := hW.2.2
  omega
theorem rl_pv {v : Nat} (hD : rl_D pg ds vs n m lo l) (hV : vc_P v pg ds vs S) : pv_P v ds S := by
  obtain ⟨hv, hl, h78, ⟨c1, -, c3⟩, hDf, har⟩ := hV
  refine ⟨by rw [c1, hl], by omega, fun j hj => ?_⟩
  obtain ⟨a1, a2, a3, a4⟩ := c3 j (by omega)
  obtain ⟨y, d1, d2, -⟩ := hDf j hj
  exact ⟨by rw [a3, har j hj, mk_ar_g], (rl_wf hD ds[j] (List.getElem_mem hj)).1, y, d1, d2⟩
theorem op_print (h : RL S) : ∃ x S1 y S2, fn_La_print S = some (x, S1) ∧ fn_Mo_print S1 = some (y, S2) ∧ LX x y S S2 := by
  have h0 := h
  obtain ⟨pg, ds, vs, T, n, pl, m, kn, lo, l, r, hD, hc, hs, hm, hms⟩ := h
  obtain ⟨-, v, v', hv, v7, v8, hV⟩ := id hc
  have hPv := rl_pv hD hV
  obtain ⟨h, B, hh, h42, hp, hVm⟩ := id hm
  have h59 := hVm.2.2.2.1
  unfold fn_La_print
  by_cases hz : ds.length = 0
  · rw [sp_print_x (v := v) (by omega) v7 (by rw [hPv.1, hz]; rfl)]
    refine ⟨1, wd_n S, 0, wd_i (wd_n S) 135 0 1, rfl, ?_, ls_x h0 (by decide)⟩
    exact mo_print_x (S := wd_n S) (by rw [wd_n1, h59, hz]; rfl)
  · obtain ⟨k, k1, k2⟩ := rl_pr hD
    obtain ⟨Sa, a1, a2, a3, a4⟩ := sp_print (v := v) (by omega) v7 hPv (by omega) k1 k2
    generalize hS1 : wd_l Sa 180 0 (Int32.ofNat k.length).toInt64 = S1
    have f1 : ∀ a j, ¬pq_W a j → S1.1 a j = S.1 a j := fun a j q => by rw [← hS1, fr_l2]; exact a4.1 a j q
    have e180 : S1.2.1 180 0 = (Int32.ofNat k.length).toInt64 := by rw [← hS1, fr_l1, if_pos ⟨rfl, rfl⟩]
    have er : ∀ a j, ¬pq_R a j → S1.2.2.1 a j = S.2.2.1 a j := fun a j q => by rw [← hS1, fr_l3]; exact a4.2.2.1 a j q
    have en : S1.2.2.2 = S.2.2.2 := by rw [← hS1, fr_l3]; exact a4.2.2.2
    have hVm1 := vm_P_o (S' := S1) (fun a j q => f1 a j (by unfold pq_W; omega)) hVm
    obtain ⟨S2, b1, b2, b3, b4, b5⟩ := mo_print hVm1.2.2.2.2.2.2.2.2 (by omega) k1 k2
    have hf : ∀ a j, ¬pq_W a j ∧ ¬pw_W a j → S2.1 a j = S.1 a j := fun a j q => by rw [b5.1 a j q.2, f1 a j q.1]
    obtain ⟨s1, s2, s3, s4, s5, s6, s7, s8, s9, s10⟩ := hs
    obtain ⟨t1, t2, t3, t4, t5, t6, t7, t8, t9, t10, t11, t12⟩ := hms
    obtain ⟨d1, d2, d3, d4⟩ := hD
    refine ⟨0, S1, Int32.ofNat k.length, S2, ?_, b1, ?_, b2, fun _ => by rw [b5.2.1 180 0 (by unfold pw_W; omega)]; exact e180, by rw [b5.2.2]; omega⟩
    · rw [a1, wd_c_s]
      show (if (0 : Int32) < 0 ∨ 1 ≤ (0 : Int32).toNatClampNeg then none else _) = _
      rw [if_neg la_g, ← hS1]
      rfl
    · refine rl_mk (S := S) (lo := k) (T := T) (pl := pl) (kn := kn) (r := r) ⟨d1, d2, k2, d4⟩ (fun a j q1 q2 => hf a j (by unfold pq_W pw_W; omega)) (fun j q1 q2 => by rw [b5.2.2, er 1 j (by unfold pq_R; omega)]) (fun a j q => hf a j (by unfold rm_K at q; unfold pq_W pw_W; omega)) hc hm ⟨by rw [← s1]; exact funext fun j => hf 3 j (by unfold pq_W pw_W; omega), by rw [hf 1 1 (by unfold pq_W pw_W; omega)]; exact s2, by rw [hf 1 2 (by unfold pq_W pw_W; omega)]; exact s3, by rw [hf 1 12 (by unfold pq_W pw_W; omega)]; exact s4, fun i hi => by rw [hf 123 i (by unfold pq_W pw_W; omega)]; exact s5 i hi, by rw [b5.1 1 15 (by unfold pw_W; omega), ← hS1, fr_l2]; exact a2, fun i hi => by rw [b5.1 127 i (by unfold pw_W; omega), ← hS1, fr_l2]; exact a3 i hi, by rw [hf 1 18 (by unfold pq_W pw_W; omega)]; exact s8, fun i hi => by rw [hf 132 i (by unfold pq_W pw_W; omega)]; exact s9 i hi, fun i hi => by rw [hf 134 i (by unfold pq_W pw_W; omega)]; exact s10 i hi⟩ ⟨by rw [← t1]; exact funext fun j => hf 136 j (by unfold pq_W pw_W; omega), by rw [hf 135 2 (by unfold pq_W pw_W; omega)]; exact t2, by rw [hf 135 10 (by unfold pq_W pw_W; omega)]; exact t3, fun i hi => by rw [hf 173 i (by unfold pq_W pw_W; omega)]; exact t4 i hi, fun i hi => by rw [hf 174 i (by unfold pq_W pw_W; omega)]; exact t5 i hi, b3, b4, by rw [hf 135 95 (by unfold pq_W pw_W; omega)]; exact t8, fun i hi => by rw [hf 179 i (by unfold pq_W pw_W; omega)]; exact t9 i hi, by rw [hf 135 96 (by unfold pq_W pw_W; omega)]; exact t10, by rw [hf 135 97 (by unfold pq_W pw_W; omega)]; exact t11, by rw [hf 135 98 (by unfold pq_W pw_W; omega)]; exact t12⟩
end Op5
