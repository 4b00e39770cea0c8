/-! The calls: read. -/
theorem ps_funs_le {K : Nat → Int32} {V : Nat → Int64} : ∀ (f i : Nat) (fs fs' : List ps_F), ps_funs K V f fs i = .ok fs' → fs.length ≤ fs'.length := by
  intro f
  induction f with
  | zero => intro i fs fs' h; cases h; exact Nat.le_refl _
  | succ f ih =>
    intro i fs fs' h
    unfold ps_funs at h
    split at h
    · cases h; exact Nat.le_refl _
    · obtain ⟨q, k1, k2⟩ := ps_b_ok h
      have := ih _ _ _ k2
      rw [List.length_append] at this
      omega
theorem ps_read_1 {K : Nat → Int32} {V : Nat → Int64} {fs : List ps_F} (h : ps_read K V = .ok fs) : 1 ≤ fs.length := by
  unfold ps_read at h
  obtain ⟨fs', k1, k2⟩ := ps_b_ok h
  cases e : ps_first V fs' (ps_M fs') with
  | some x => rw [e] at k2; cases k2
  | none =>
    rw [e] at k2
    cases k2
    unfold ps_prog at k1
    split at k1
    · cases k1
    · obtain ⟨q, j1, j2⟩ := ps_b_ok k1
      exact ps_funs_le _ _ _ _ j2
theorem mk_ok_0 {pg : pg_T} : mk_ok pg [] := ⟨fun q hq => absurd hq List.not_mem_nil, fun q hq => absurd hq List.not_mem_nil, List.nodup_nil⟩
theorem vm_0 {pg : pg_T} {h B : Nat} {S : wd_S} (hB : B ≤ 1) (hh : h ≤ 1) (h63 : S.1 135 63 = Int32.ofNat B) (h59 : S.1 135 59 = 0) : vm_P h B pg [] [] S := ⟨hB, hh, h63, h59, rfl, Nat.zero_le _, fun j hj => absurd hj (Nat.not_lt_zero _), fun j hj => absurd hj (Nat.not_lt_zero _), hB, h63, h59, Nat.zero_le _, fun j hj => absurd hj (Nat.not_lt_zero _)⟩
section Op9
variable {S : wd_S}
theorem op_read (h : RL S) : ∃ x S1 S2, fn_Sp_read S = some (x, S1) ∧ fn_Mo_read S1 = some (x, S2) ∧ RL S2 ∧ S2.1 135 0 = 0 ∧ S2.2.2.2 = S.2.2.2 := by
  obtain ⟨pg, ds, vs, T, n, pl, m, kn, lo, l, r, hD, hc, hs, hm, hms⟩ := h
  obtain ⟨⟨b, b', hb, b5, b6, hP⟩, v, v', hv, v7, v8, hV⟩ := hc
  obtain ⟨h, B, hh, h42, hp, hVm⟩ := hm
  obtain ⟨d1, d2, d3, d4, dP, d6, d7, d8, d9⟩ := hD
  have h48 := dP.1
  obtain ⟨s1, s2, s3, s4, s5, s6, s7, s8, s9, s10⟩ := hs
  obtain ⟨t1, t2, t3, t4, t5, t6, t7, t8, t9, t10, t11, t12⟩ := hms
  obtain ⟨x, S1, x1, x2, x3, x4⟩ := sp_read (n := n) (b := b') (b' := b) (v := v) s2 d1 (by omega) b6 b5 (by omega) v7
  rw [s1] at x4
  have g : ∀ a k, 135 ≤ a → S1.1 a k = S.1 a k := fun a k q => x2.1 a k (by unfold re_W; omega)
  have eT : S1.1 136 = T := by rw [← t1]; exact funext fun k => g 136 k (by omega)
  obtain ⟨y, S2, y1, y2, y3, y4⟩ := mo_read (S := S1) (h := h) (B := if S1.1 135 41 = 0 then h else 1 - h) d1 eT (by rw [g 135 2 (by omega)]; exact t2) hh (by rw [g 135 42 (by omega)]; exact h42) rfl
  have e41 : S1.1 135 41 = S.1 135 41 := g 135 41 (by omega)
  rw [e41] at y4
  cases hr : ps_read (tk_K T n) (tk_V T n) with
  | error e =>
    rw [hr] at x4 y4
    obtain ⟨u1, u2, u3, u4, u5, u6⟩ := x4
    obtain ⟨w1, w2, w3, w4⟩ := y4
    generalize hQ : (if S.1 135 41 = 0 then h else 1 - h) = Q at w1
    have hQ1 : Q ≤ 1 := by rw [← hQ]; split <;> omega
    have hf : ∀ a k, ¬re_W b' v a k ∧ ¬mo_We Q a k → S2.1 a k = S.1 a k := fun a k q => by rw [w1.1 a k q.2, x2.1 a k q.1]
    have hcl : ∀ a k, a < 135 → S2.1 a k = S1.1 a k := fun a k q => w1.1 a k (by unfold mo_We; omega)
    refine ⟨x, S1, S2, x1, by rw [y1, u1, w2], ?_, y2, by rw [w1.2.2]; exact x2.2.2.2⟩
    refine ⟨pg, ds, vs, T, 0, Int32.ofNat (tk_p T n e.2), m, kn, lo, l, r, ⟨Nat.zero_le _, d2, d3, d4, dP, d6, d7, d8, d9⟩, ⟨⟨b, b', hb, ?_, ?_, ?_⟩, v, v', hv, ?_, ?_, ?_⟩, ?_, ⟨h, B, hh, ?_, ?_, ?_⟩, ?_⟩
    · rw [w1.2.2]; exact u4
    · rw [w1.2.2]; exact u5
    · obtain ⟨c1, c2⟩ := hP
      have hrw : ∀ a, b ≤ a → a ≤ b + 17 → S2.1 a = S.1 a := fun a q1 q2 => funext fun k => hf a k (by unfold re_W mo_We; omega)
      refine ⟨by rw [hrw b (by omega) (by omega)]; exact c1, fun j hj => ?_⟩
      obtain ⟨a1, z, a2, a3, a4, a5⟩ := c2 j hj
      exact ⟨by rw [hrw (b + 17) (by omega) (by omega)]; exact a1, z, by rw [hrw (b + 15) (by omega) (by omega)]; exact a2, nd_t_g (nd_rows (fun a q1 q2 => hrw a (by omega) (by omega))) _ _ _ a3, by rw [hrw (b + 1 + 10) (by omega) (by omega)]; exact a4, by rw [hrw (b + 1 + 12) (by omega) (by omega)]; exact a5⟩
    · rw [w1.2.2, x2.2.2.1 1 7 (by unfold re_R; omega)]; exact v7
    · rw [w1.2.2, x2.2.2.1 1 8 (by unfold re_R; omega)]; exact v8
    · exact vc_P_o (S := S) (fun a q1 q2 => funext fun k => hf a k (by unfold re_W mo_We; omega)) (by rw [hcl (v + 1) 3 (by omega)]; exact u6) hV
    · exact ⟨by rw [← s1]; exact funext fun k => hf 3 k (by unfold re_W mo_We; omega), by rw [hcl 1 1 (by omega)]; exact x3, by rw [hcl 1 2 (by omega)]; exact u3, by rw [hf 1 12 (by unfold re_W mo_We; omega)]; exact s4, fun i hi => by rw [hf 123 i (by unfold re_W mo_We; omega)]; exact s5 i hi, by rw [hf 1 15 (by unfold re_W mo_We; omega)]; exact s6, fun i hi => by rw [hf 127 i (by unfold re_W mo_We; omega)]; exact s7 i hi, by rw [hf 1 18 (by unfold re_W mo_We; omega)]; exact s8, fun i hi => by rw [hf 132 i (by unfold re_W mo_We; omega)]; exact s9 i hi, fun i hi => by rw [hf 134 i (by unfold re_W mo_We; omega)]; exact s10 i hi⟩
    · rw [hf 135 42 (by unfold re_W mo_We; omega)]; exact h42
    · rcases hp with ⟨p1, p2⟩ | ⟨p1, p2, p3, p4⟩
      · exact Or.inl ⟨p1, by rw [hf 135 41 (by unfold re_W mo_We; omega)]; exact p2⟩
      · have hQh : Q = 1 - h := by rw [← hQ, p2, if_neg (show ¬(1 : Int32) = 0 by decide)]
        exact Or.inr ⟨p1, by rw [hf 135 41 (by unfold re_W mo_We; omega)]; exact p2, by rw [hf 150 h (by unfold re_W mo_We; omega)]; exact p3, mo_P_o (S := S) (fun a k q => hf a k (by unfold re_W mo_We; omega)) h48 p4⟩
    · rcases hp with ⟨p1, p2⟩ | ⟨p1, p2, p3, p4⟩
      · have hd := d8 p1
        have hvs : vs = [] := List.length_eq_zero_iff.mp (by rw [← d6, hd]; rfl)
        rw [hd, hvs]
        exact vm_0 hVm.1 hh (by rw [hf 135 63 (by unfold re_W mo_We; omega)]; exact hVm.2.2.1) (by rw [hf 135 59 (by unfold re_W mo_We; omega), hVm.2.2.2.1, hd]; rfl)
      · have hQh : Q = 1 - h := by rw [← hQ, p2, if_neg (show ¬(1 : Int32) = 0 by decide)]
        have hB := hVm.1
        exact vm_P_o2 (S := S) (fun a k q => hf a k (by unfold re_W mo_We; omega)) hVm
    · exact ⟨by rw [← t1]; exact funext fun k => hf 136 k (by unfold re_W mo_We; omega), y3, w4, fun i hi => by rw [hf 173 i (by unfold re_W mo_We; omega)]; exact t4 i hi, fun i hi => by rw [hf 174 i (by unfold re_W mo_We; omega)]; exact t5 i hi, by rw [hf 135 89 (by unfold re_W mo_We; omega)]; exact t6, fun i hi => by rw [hf 175 i (by unfold re_W mo_We; omega)]; exact t7 i hi, by rw [hf 135 95 (by unfold re_W mo_We; omega)]; exact t8, fun i hi => by rw [hf 179 i (by unfold re_W mo_We; omega)]; exact t9 i hi, by rw [hf 135 96 (by unfold re_W mo_We; omega)]; exact t10, by rw [hf 135 97 (by unfold re_W mo_We; omega)]; exact t11, by rw [hf 135 98 (by unfold re_W mo_We; omega)]; exact t12⟩
  | ok fs =>
    rw [hr] at x4 y4
    obtain ⟨u1, u2, u3, u4, u5, u6⟩ := x4
    obtain ⟨w1, w2, w3, w4, w5, w6, w7, -, -, -, -, w12⟩ := y4
    generalize hQ : (if S.1 135 41 = 0 then h else 1 - h) = Q at w1 w4 w6 w12
    have hQ1 : Q ≤ 1 := by rw [← hQ]; split <;> omega
    have hf : ∀ a k, ¬re_W b' v a k ∧ ¬mo_W Q a k → S2.1 a k = S.1 a k := fun a k q => by rw [w1.1 a k q.2, x2.1 a k q.1]
    have hcl : ∀ a, a < 135 → S2.1 a = S1.1 a := fun a q => funext fun k => w1.1 a k (by unfold mo_W mo_We; omega)
    have hl := ps_out_l (tk_V T n) fs
    refine ⟨x, S1, S2, x1, by rw [y1, u1, w2], ?_, y2, by rw [w1.2.2]; exact x2.2.2.2⟩
    refine ⟨ps_out (tk_V T n) fs, [], [], T, 0, -1, m, kn, lo, l, r, ⟨Nat.zero_le _, d2, d3, d4, wf_read hr, rfl, mk_ok_0, fun _ => rfl, ([], 0, 0, 0), rfl, fun j hj => absurd hj (Nat.not_lt_zero _), Nat.le_refl _, Nat.zero_le _⟩, ⟨⟨b', b, by omega, ?_, ?_, ?_⟩, v, v', hv, ?_, ?_, ?_⟩, ?_, ⟨Q, B, hQ1, w4, Or.inr ⟨?_, w5, ?_, w12⟩, ?_⟩, ?_⟩
    · rw [w1.2.2]; exact u3
    · rw [w1.2.2]; exact u4
    · exact cl_P_o (S := S1) (by omega) (fun a q1 q2 => hcl a (by omega)) u5
    · rw [w1.2.2, x2.2.2.1 1 7 (by unfold re_R; omega)]; exact v7
    · rw [w1.2.2, x2.2.2.1 1 8 (by unfold re_R; omega)]; exact v8
    · exact ⟨by omega, rfl, Nat.zero_le _, ⟨by rw [hcl (v + 1) (by omega)]; exact u6, mk_ok_0, fun j hj => absurd hj (Nat.not_lt_zero _)⟩, fun j hj => absurd hj (Nat.not_lt_zero _), fun j hj => absurd hj (Nat.not_lt_zero _)⟩
    · exact ⟨by rw [← s1]; exact funext fun k => hf 3 k (by unfold re_W mo_W mo_We; omega), by rw [hcl 1 (by omega)]; exact x3, by rw [hcl 1 (by omega)]; exact u2, by rw [hf 1 12 (by unfold re_W mo_W mo_We; omega)]; exact s4, fun i hi => by rw [hf 123 i (by unfold re_W mo_W mo_We; omega)]; exact s5 i hi, by rw [hf 1 15 (by unfold re_W mo_W mo_We; omega)]; exact s6, fun i hi => by rw [hf 127 i (by unfold re_W mo_W mo_We; omega)]; exact s7 i hi, by rw [hf 1 18 (by unfold re_W mo_W mo_We; omega)]; exact s8, fun i hi => by rw [hf 132 i (by unfold re_W mo_W mo_We; omega)]; exact s9 i hi, fun i hi => by rw [hf 134 i (by unfold re_W mo_W mo_We; omega)]; exact s10 i hi⟩
    · rw [hl]; exact ps_read_1 hr
    · rw [hl]; exact w6
    · exact vm_0 hVm.1 hQ1 (by rw [hf 135 63 (by unfold re_W mo_W mo_We; omega)]; exact hVm.2.2.1) w7
    · exact ⟨by rw [← t1]; exact funext fun k => hf 136 k (by unfold re_W mo_W mo_We; omega), y3, w3, fun i hi => by rw [hf 173 i (by unfold re_W mo_W mo_We; omega)]; exact t4 i hi, fun i hi => by rw [hf 174 i (by unfold re_W mo_W mo_We; omega)]; exact t5 i hi, by rw [hf 135 89 (by unfold re_W mo_W mo_We; omega)]; exact t6, fun i hi => by rw [hf 175 i (by unfold re_W mo_W mo_We; omega)]; exact t7 i hi, by rw [hf 135 95 (by unfold re_W mo_W mo_We; omega)]; exact t8, fun i hi => by rw [hf 179 i (by unfold re_W mo_W mo_We; omega)]; exact t9 i hi, by rw [hf 135 96 (by unfold re_W mo_W mo_We; omega)]; exact t10, by rw [hf 135 97 (by unfold re_W mo_W mo_We; omega)]; exact t11, by rw [hf 135 98 (by unfold re_W mo_W mo_We; omega)]; exact t12⟩
end Op9
