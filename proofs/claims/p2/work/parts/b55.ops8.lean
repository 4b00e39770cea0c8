/-! The calls: make, both. -/
section Op8
variable {S S' S1 S2 : wd_S} {p : Int32}
theorem op_make (h : RL S) : ∃ x S1 y S2, fn_La_make p S = some (x, S1) ∧ fn_Mo_make p S1 = some (y, S2) ∧ LX x y S S2 := by
  have h0 := h
  obtain ⟨pg, ds, vs, T, n, pl, m, kn, lo, l, r, hD, hc, hs, hm, hms⟩ := h
  obtain ⟨⟨b, b', hb, b5, b6, hP⟩, v, v', hv, v7, v8, hV⟩ := id hc
  obtain ⟨h, B, hh, h42, hp, hVm⟩ := id hm
  obtain ⟨d1, d2, d3, d4, dP, d6⟩ := id hD
  have h48 := dP.1
  have h63 := hVm.2.2.1
  have hB := hVm.1
  obtain ⟨s1, s2, s3, s4, s5, s6, s7, s8, s9, s10⟩ := id hs
  obtain ⟨t1, t2, t3, t4, t5, t6, t7, t8, t9, t10, t11, t12⟩ := id hms
  have key := sp_make (p := p) (v := v') (v' := v) (m := m) (kn := kn) (b := b) (pg := pg) (by omega) (by omega) b5 v7 v8 hP h48 dP.2.1 d2 s4 s5
  unfold ck_x at key
  unfold fn_La_make
  by_cases hz : pg.length = 0
  · rw [if_pos hz] at key
    rw [show fn_Sp_make p S = _ from key]
    refine ⟨1, wd_n S, 0, wd_i (wd_n S) 135 0 1, rfl, ?_, ls_x h0 (by decide)⟩
    refine mo_make_x (S := wd_n S) ?_
    rcases hp with ⟨-, p2⟩ | ⟨p1, -⟩
    · exact p2
    · omega
  · rw [if_neg hz] at key
    obtain ⟨p1, p2, p3, p4⟩ : 1 ≤ pg.length ∧ S.1 135 41 = 1 ∧ S.1 150 h = Int32.ofNat pg.length ∧ mo_P h pg S := by
      rcases hp with ⟨p1, -⟩ | hp
      · rw [p1] at hz; exact absurd rfl hz
      · exact hp
    by_cases hr : p < 0 ∨ ¬p < Int32.ofNat pg.length
    · rw [if_pos hr] at key
      rw [show fn_Sp_make p S = _ from key]
      exact ⟨2, wd_n S, 0, wd_i (wd_n S) 135 0 2, rfl, mo_make_i (S := wd_n S) p2 hh h42 p3 p1 (by omega) hr, ls_x h0 (by decide)⟩
    · rw [if_neg hr] at key
      obtain ⟨f, f1, f2, f3⟩ := lk_p (by omega) hr
      rw [f3] at key
      have hmm : m % 2 ^ pg_n pg f < 2 ^ pg_n pg f := Nat.mod_lt _ (Nat.two_pow_pos _)
      have hgd := mk_all_nn (kn := kn) dP f1 hmm
      have hmo : ∀ S1 : wd_S, (∀ a k, 135 ≤ a → S1.1 a k = S.1 a k) → _ := fun S1 e => mo_make_ok (S := S1) (V := B) (B := 1 - B) (h := h) (pg := pg) (f := f) (m := m) (kn := kn) hB rfl (by rw [e 135 63 (by omega)]; exact h63) (by rw [e 135 41 (by omega)]; exact p2) hh (by rw [e 135 42 (by omega)]; exact h42) (by rw [e 150 h (by omega)]; exact p3) (mo_P_o (S := S) (fun a k q => e a k (by omega)) h48 p4) h48 dP.2.1 f1 d2 (fun i hi => by rw [e 173 i (by omega)]; exact t4 i hi) (fun i hi => by rw [e 174 i (by omega)]; exact t5 i hi)
      rw [f2]
      rw [f2] at key
      cases hq : mk_all pg f (m % 2 ^ pg_n pg f) kn with
      | error u =>
        cases u with
        | none => rw [hq] at hgd; exact hgd.elim
        | some u =>
          rw [hq] at key
          obtain ⟨Sa, a1, a2⟩ := key
          have g1 : ∀ a k, ¬cf_W v' a k → (wd_n Sa).1 a k = S.1 a k := fun a k q => a2.1 a k q
          have hm1 := hmo (wd_n Sa) (fun a k q => g1 a k (by unfold cf_W cm_W cx_W; omega))
          rw [hq] at hm1
          obtain ⟨S2, c1, c2, c3⟩ := hm1
          have hf : ∀ a k, ¬cf_W v' a k ∧ ¬mf_F (1 - B) a k → S2.1 a k = S.1 a k := fun a k q => by rw [c3.1 a k q.2, g1 a k q.1]
          refine ⟨3, wd_n Sa, 0, S2, by rw [a1]; rfl, c1, ?_, c2, fun z => absurd z (by decide), by rw [c3.2.2]; show Sa.2.2.2 + 1 ≤ _; rw [a2.2.2.2]; exact Nat.le_refl _⟩
          refine ⟨pg, ds, vs, T, n, pl, m, kn, lo, l, r, hD, ⟨⟨b, b', hb, ?_, ?_, ?_⟩, v, v', hv, ?_, ?_, ?_⟩, ?_, ⟨h, B, hh, ?_, Or.inr ⟨p1, ?_, ?_, ?_⟩, ?_⟩, ?_⟩
          · rw [c3.2.2]; show Sa.2.2.1 1 5 = b; rw [a2.2.2.1 1 5 (by unfold cx_R; omega)]; exact b5
          · rw [c3.2.2]; show Sa.2.2.1 1 6 = b'; rw [a2.2.2.1 1 6 (by unfold cx_R; omega)]; exact b6
          · exact cl_P_o (S := S) (by omega) (fun a q1 q2 => funext fun k => hf a k (by unfold cf_W cm_W cx_W mf_F me_F mm_F; omega)) hP
          · rw [c3.2.2]; show Sa.2.2.1 1 7 = v; rw [a2.2.2.1 1 7 (by unfold cx_R; omega)]; exact v7
          · rw [c3.2.2]; show Sa.2.2.1 1 8 = v'; rw [a2.2.2.1 1 8 (by unfold cx_R; omega)]; exact v8
          · exact vc_P_o (S := S) (fun a q1 q2 => funext fun k => hf a k (by unfold cf_W cm_W cx_W mf_F me_F mm_F; omega)) (hf _ _ (by unfold cf_W cm_W cx_W mf_F me_F mm_F; omega)) hV
          · exact ⟨by rw [← s1]; exact funext fun k => hf 3 k (by unfold cf_W cm_W cx_W mf_F me_F mm_F; omega), by rw [hf 1 1 (by unfold cf_W cm_W cx_W mf_F me_F mm_F; omega)]; exact s2, by rw [hf 1 2 (by unfold cf_W cm_W cx_W mf_F me_F mm_F; omega)]; exact s3, by rw [hf 1 12 (by unfold cf_W cm_W cx_W mf_F me_F mm_F; omega)]; exact s4, fun i hi => by rw [hf 123 i (by unfold cf_W cm_W cx_W mf_F me_F mm_F; omega)]; exact s5 i hi, by rw [hf 1 15 (by unfold cf_W cm_W cx_W mf_F me_F mm_F; omega)]; exact s6, fun i hi => by rw [hf 127 i (by unfold cf_W cm_W cx_W mf_F me_F mm_F; omega)]; exact s7 i hi, by rw [hf 1 18 (by unfold cf_W cm_W cx_W mf_F me_F mm_F; omega)]; exact s8, fun i hi => by rw [hf 132 i (by unfold cf_W cm_W cx_W mf_F me_F mm_F; omega)]; exact s9 i hi, fun i hi => by rw [hf 134 i (by unfold cf_W cm_W cx_W mf_F me_F mm_F; omega)]; exact s10 i hi⟩
          · rw [hf 135 42 (by unfold cf_W cm_W cx_W mf_F me_F mm_F; omega)]; exact h42
          · rw [hf 135 41 (by unfold cf_W cm_W cx_W mf_F me_F mm_F; omega)]; exact p2
          · rw [hf 150 h (by unfold cf_W cm_W cx_W mf_F me_F mm_F; omega)]; exact p3
          · exact mo_P_o (S := S) (fun a k q => hf a k (by unfold cf_W cm_W cx_W mf_F me_F mm_F; omega)) h48 p4
          · exact vm_P_o2 (S := S) (fun a k q => hf a k (by unfold cf_W cm_W cx_W mf_F me_F mm_F; omega)) hVm
          · exact rm_s_o (S := S) (fun a k q => hf a k (by unfold cf_W cm_W cx_W mf_F me_F mm_F; omega)) hms
      | ok q =>
        rw [hq] at key hgd
        obtain ⟨Sa, a1, a2, a3, a4, a5, a6, a7, a8⟩ := key
        obtain ⟨q1, q2, q3⟩ := hgd
        generalize hS1 : wd_l Sa 180 0 (Int32.ofNat q.2.1.length).toInt64 = S1
        have g1 : ∀ a k, ¬ck_W v' a k → S1.1 a k = S.1 a k := fun a k q => by rw [← hS1, fr_l2]; exact a2.1 a k q
        have e180 : S1.2.1 180 0 = (Int32.ofNat q.2.1.length).toInt64 := by rw [← hS1, fr_l1, if_pos ⟨rfl, rfl⟩]
        have er : S1.2.2 = Sa.2.2 := by rw [← hS1]; rfl
        have e1 : S1.1 = Sa.1 := by rw [← hS1]; rfl
        have hm1 := hmo S1 (fun a k q => g1 a k (by unfold ck_W cf_W cm_W cx_W; omega))
        rw [hq] at hm1
        obtain ⟨S2, mn, ma, c1, c2, c3, c4, c5, c6, c7, c8, c9, c10, c11⟩ := hm1
        have hf : ∀ a k, ¬ck_W v' a k ∧ ¬mg_F (1 - B) a k → S2.1 a k = S.1 a k := fun a k q => by rw [c11.1 a k q.2, g1 a k q.1]
        have hcl : ∀ a, a < 135 → S2.1 a = Sa.1 a := fun a ha => funext fun k => by rw [c11.1 a k (by unfold mg_F mf_F me_F mm_F; omega), e1]
        have hmP : mo_P h pg S2 := mo_P_o (S := S) (fun a k q => hf a k (by unfold ck_W cf_W cm_W cx_W mg_F mf_F me_F mm_F; omega)) h48 p4
        refine ⟨0, S1, Int32.ofNat q.2.1.length, S2, ?_, c1, ?_, c2, fun _ => by rw [c11.2.1 180 0 (by unfold mg_F mf_F me_F mm_F; omega)]; exact e180, by rw [c11.2.2, er, a2.2.2.2]; exact Nat.le_succ _⟩
        · rw [a1, wd_c_s]
          show (if (0 : Int32) < 0 ∨ 1 ≤ (0 : Int32).toNatClampNeg then none else _) = _
          rw [if_neg la_g, ← hS1]
          rfl
        · refine ⟨pg, q.1, q.2.1, T, n, pl, 0, kn, lo, l, r, ⟨d1, by decide, d3, d4, dP, q1, q2, fun z => absurd (by rw [z]; rfl) hz, q.2, rfl, q3⟩, ⟨⟨b, b', hb, ?_, ?_, ?_⟩, v', v, by omega, ?_, ?_, ?_⟩, ?_, ⟨h, 1 - B, hh, ?_, Or.inr ⟨p1, ?_, ?_, hmP⟩, ?_⟩, ?_⟩
          · rw [c11.2.2, er, a2.2.2.1 1 5 (by unfold ck_R cx_R; omega)]; exact b5
          · rw [c11.2.2, er, a2.2.2.1 1 6 (by unfold ck_R cx_R; omega)]; exact b6
          · exact cl_P_o (S := S) (by omega) (fun a q1 q2 => funext fun k => hf a k (by unfold ck_W cf_W cm_W cx_W mg_F mf_F me_F mm_F; omega)) hP
          · rw [c11.2.2, er]; exact a3
          · rw [c11.2.2, er]; exact a4
          · refine vc_P_o (S := Sa) (fun a q1 q2 => hcl a (by omega)) (by rw [hcl (v' + 1) (by omega)]) ⟨by omega, q1, ?_, a6, a8, fun j hj => (q3.1 j hj).1⟩
            have := mk_ok_len q2
            omega
          · exact ⟨by rw [← s1]; exact funext fun k => hf 3 k (by unfold ck_W cf_W cm_W cx_W mg_F mf_F me_F mm_F; omega), by rw [hf 1 1 (by unfold ck_W cf_W cm_W cx_W mg_F mf_F me_F mm_F; omega)]; exact s2, by rw [hf 1 2 (by unfold ck_W cf_W cm_W cx_W mg_F mf_F me_F mm_F; omega)]; exact s3, by rw [hcl 1 (by omega)]; exact a5, fun i hi => by rw [hf 123 i (by unfold ck_W cf_W cm_W cx_W mg_F mf_F me_F mm_F; omega)]; exact s5 i hi, by rw [hf 1 15 (by unfold ck_W cf_W cm_W cx_W mg_F mf_F me_F mm_F; omega)]; exact s6, fun i hi => by rw [hf 127 i (by unfold ck_W cf_W cm_W cx_W mg_F mf_F me_F mm_F; omega)]; exact s7 i hi, by rw [hf 1 18 (by unfold ck_W cf_W cm_W cx_W mg_F mf_F me_F mm_F; omega)]; exact s8, fun i hi => by rw [hf 132 i (by unfold ck_W cf_W cm_W cx_W mg_F mf_F me_F mm_F; omega)]; exact s9 i hi, fun i hi => by rw [hf 134 i (by unfold ck_W cf_W cm_W cx_W mg_F mf_F me_F mm_F; omega)]; exact s10 i hi⟩
          · rw [hf 135 42 (by unfold ck_W cf_W cm_W cx_W mg_F mf_F me_F mm_F; omega)]; exact h42
          · rw [hf 135 41 (by unfold ck_W cf_W cm_W cx_W mg_F mf_F me_F mm_F; omega)]; exact p2
          · rw [hf 150 h (by unfold ck_W cf_W cm_W cx_W mg_F mf_F me_F mm_F; omega)]; exact p3
          · exact vm_made dP (by omega) hh c3 c4 c6 c7 c8 c9 q1 q3 hmP
          · exact ⟨by rw [← t1]; exact funext fun k => hf 136 k (by unfold ck_W cf_W cm_W cx_W mg_F mf_F me_F mm_F; omega), by rw [hf 135 2 (by unfold ck_W cf_W cm_W cx_W mg_F mf_F me_F mm_F; omega)]; exact t2, by rw [hf 135 10 (by unfold ck_W cf_W cm_W cx_W mg_F mf_F me_F mm_F; omega)]; exact t3, fun i hi => by rw [c5 i hi, Nat.zero_div]; rfl, fun i hi => by rw [hf 174 i (by unfold ck_W cf_W cm_W cx_W mg_F mf_F me_F mm_F; omega)]; exact t5 i hi, by rw [hf 135 89 (by unfold ck_W cf_W cm_W cx_W mg_F mf_F me_F mm_F; omega)]; exact t6, fun i hi => by rw [hf 175 i (by unfold ck_W cf_W cm_W cx_W mg_F mf_F me_F mm_F; omega)]; exact t7 i hi, by rw [hf 135 95 (by unfold ck_W cf_W cm_W cx_W mg_F mf_F me_F mm_F; omega)]; exact t8, fun i hi => by rw [hf 179 i (by unfold ck_W cf_W cm_W cx_W mg_F mf_F me_F mm_F; omega)]; exact t9 i hi, by rw [hf 135 96 (by unfold ck_W cf_W cm_W cx_W mg_F mf_F me_F mm_F; omega)]; exact t10, by rw [hf 135 97 (by unfold ck_W cf_W cm_W cx_W mg_F mf_F me_F mm_F; omega)]; exact t11, by rw [hf 135 98 (by unfold ck_W cf_W cm_W cx_W mg_F mf_F me_F mm_F; omega)]; exact t12⟩
end Op8
