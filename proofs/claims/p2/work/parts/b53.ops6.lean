/-! The calls: run. -/
section Op6
variable {S S1 S2 : wd_S} {p lim t : Int32} {pg ds : pg_T} {vs : List mk_V} {T : Nat → Int32} {n m : Nat} {pl : Int32} {kn : Nat → Int32} {lo l : List Int32} {r : Nat → Int32}
theorem rn_ok_p (hP : wf_P pg) : rn_ok pg l := fun f k hf hl he => by
  have := ev_nn (fr := True) (P := pg_P pg) (ar := pg_n pg) (lim := k) (fun f hf => ⟨96, by rw [pg_P_l] at hf ⊢; exact hP.2.2 f hf⟩) 160 96 _ (ev_l l) 0 0 _ (by rw [pg_P_l]; exact hP.2.2 f hf) (fun i hi => by
    have hi : i < pg_n pg f := hi
    exact ⟨l[i]'(by omega), List.getElem?_eq_getElem _⟩)
  rw [he] at this
  exact this
theorem rn_ok_v (hD : rl_D pg ds vs n m lo l) (l : List Int32) : rn_ok ds l := fun f k hf hl he => by
  obtain ⟨-, -, -, -, hP, hlen, hok, -, s, rfl, hW⟩ := hD
  have hw : ∀ f, f < ds.length → wf_t False (pg_P ds).length (mk_ar pg s.1) 96 (fun i => i < mk_ar pg s.1 f) ((pg_P ds).getD f tr_z) := fun f hf => by
    rw [pg_P_l, hlen, pg_P_g hf]
    exact (hW.1 f hf).2.1
  have := ev_nn (fr := False) (P := pg_P ds) (ar := mk_ar pg s.1) (lim := k) (fun f hf => ⟨96, hw f (by rw [pg_P_l] at hf; exact hf)⟩) 160 96 _ (ev_l l) 0 0 _ (hw f hf) (fun i hi => by
    have hi : i < mk_ar pg s.1 f := hi
    rw [pg_n_g hf, (hW.1 f hf).1] at hl
    exact ⟨l[i]'(by omega), List.getElem?_eq_getElem _⟩)
  rw [he] at this
  exact this
theorem rn_E {E : String} (h : rn pg l p lim = .inl E) : E = "java/lang/IllegalStateException" ∨ E = "java/lang/IndexOutOfBoundsException" ∨ E = "java/lang/IllegalArgumentException" := by
  rw [rn_rr] at h
  split at h
  · cases h; exact Or.inl rfl
  · split at h
    · cases h; exact Or.inr (Or.inl rfl)
    · split at h
      · cases h; exact Or.inr (Or.inr rfl)
      · split at h
        · cases h
        · cases h; exact Or.inr (Or.inr rfl)
theorem rn_0 : rn [] l p lim = .inl "java/lang/IllegalStateException" := by
  rw [rn_rr]
  exact if_pos rfl
def rn_C (x : String ⊕ (Int32 × Int32 × Nat × Nat)) (t p lim : Int32) (S : wd_S) : Prop := match x with
    | .inl E => fn_Sp_run t p lim S = some (.inr E, wd_n S)
    | .inr r => ∃ S', fn_Sp_run t p lim S = some (.inl r.1, S') ∧ S'.1 1 18 = 0 ∧ S'.1 134 0 = r.2.1 ∧ S'.1 134 1 = Int32.ofNat r.2.2.1 ∧ S'.1 134 2 = Int32.ofNat r.2.2.2 ∧ of_r rn_W cx_R S S'
theorem rn_c (hD : rl_D pg ds vs n m lo l) (hc : rc_P pg ds vs S) (hs : rc_s T n pl m kn lo l r S) : rn_C (rn (if t = 0 then pg else ds) l p lim) t p lim S := by
  obtain ⟨⟨b, b', hb, b5, -, hP⟩, v, v', hv, v7, -, hV⟩ := hc
  have h8 := hs.2.2.2.2.2.2.2.1
  have h9 := hs.2.2.2.2.2.2.2.2.1
  unfold rn_C
  by_cases ht : t = 0
  · rw [if_pos ht]
    have hb1 : b = 11 ∨ b = 29 := by omega
    have cb : cb_ok b 1500 48 := by rcases hb1 with z | z <;> subst z <;> exact ⟨by decide, rfl, rfl, ⟨rfl, rfl, rfl, rfl, rfl, rfl⟩, rfl, by decide, by decide⟩
    have t17 : (tp_t (b + 16 + 1)).2 = 48 := by rcases hb1 with z | z <;> rw [z] <;> rfl
    have t0 : tp_t b = (0, 0) := cb.2.1
    have key := sp_run18 (p := p) (lim := lim) (l := l) (pg := pg) cb hD.2.2.2.2.1.1 t17 hP.1 (fun j hj => ⟨(hP.2 j hj).1, by have := hD.2.2.2.2.1.2.1 j; rw [pg_n_g hj] at this; exact this⟩) (fun j hj => by
      have hj' : j < pg.length := by rw [pg_P_l] at hj; exact hj
      obtain ⟨-, y, a2, a3, -⟩ := hP.2 j hj'
      exact ⟨y, a2, by rw [pg_P_e hj hj']; exact a3⟩) h8 hD.2.2.2.1 h9 (rn_ok_p hD.2.2.2.2.1) (by omega)
    have e : fn_Sp_run t p lim S = fn_Sp_run_18 p lim b S := by
      unfold fn_Sp_run
      rw [if_pos ht, b5, if_pos t0]
    rw [e]
    exact key
  · rw [if_neg ht]
    have hv1 : v = 54 ∨ v = 79 := by omega
    have hPv := rl_pv hD hV
    have cb : cb_ok (v + 1) 1000 78 := by rcases hv1 with z | z <;> subst z <;> exact ⟨by decide, rfl, rfl, ⟨rfl, rfl, rfl, rfl, rfl, rfl⟩, rfl, by decide, by decide⟩
    have t17 : (tp_t (v + 1 + 16 + 1)).2 = 78 := by rcases hv1 with z | z <;> rw [z] <;> rfl
    have t9 : tp_t v = (0, 9) := by rcases hv1 with z | z <;> rw [z] <;> rfl
    have t0 : tp_t (v + 1) = (0, 0) := cb.2.1
    have key := sp_run18 (p := p) (lim := lim) (l := l) (pg := ds) cb hPv.2.1 t17 hPv.1 (fun j hj => ⟨by rw [show v + 1 + 17 = v + 18 from rfl]; exact (hPv.2.2 j hj).1, (hPv.2.2 j hj).2.1⟩) (fun j hj => by
      have hj' : j < ds.length := by rw [pg_P_l] at hj; exact hj
      obtain ⟨-, -, y, a2, a3⟩ := hPv.2.2 j hj'
      exact ⟨y, a2, by rw [pg_P_e hj hj']; exact a3⟩) h8 hD.2.2.2.1 h9 (rn_ok_v hD l) (by omega)
    have e : fn_Sp_run t p lim S = fn_Sp_run_18 p lim (v + 1) S := by
      unfold fn_Sp_run fn_Versions_bodies
      rw [if_neg ht, v7, if_pos t9, wd_c_s, if_pos t0]
    rw [e]
    exact key
theorem rn_m (hD : rl_D pg ds vs n m lo l) (hm : rm_P pg ds vs S) (h95 : S.1 135 95 = Int32.ofNat l.length) (h179 : ∀ i, (hi : i < l.length) → S.1 179 i = l[i]) : rn_M l (rn (if t = 0 then pg else ds) l p lim) t p lim S := by
  obtain ⟨h, B, hh, h42, hp, hV⟩ := hm
  have h59 := hV.2.2.2.1
  have c1 : mr_c "java/lang/IllegalStateException" = 1 := by decide
  rcases hp with ⟨p1, p2⟩ | ⟨p1, p2, p3, p4⟩
  · have hd : ds = [] := hD.2.2.2.2.2.2.2.1 p1
    have e : (if t = 0 then pg else ds) = [] := by rw [p1, hd, ite_self]
    rw [e, rn_0]
    show fn_Mo_run t p lim S = some (0, wd_i S 135 0 (mr_c "java/lang/IllegalStateException"))
    rw [c1]
    exact mo_run_x p2 (by rw [h59, hd]; rfl)
  · by_cases ht : t = 0
    · rw [if_pos ht, ht]
      exact mo_run_p p2 hh h42 p3 p1 hD.2.2.2.2.1.1 hD.2.2.2.2.1.2.1 p4 hD.2.2.2.1 h95 h179 (rn_ok_p hD.2.2.2.2.1)
    · rw [if_neg ht]
      by_cases hz : ds.length = 0
      · have hd : ds = [] := List.length_eq_zero_iff.mp hz
        rw [hd, rn_0]
        show fn_Mo_run t p lim S = some (0, wd_i S 135 0 (mr_c "java/lang/IllegalStateException"))
        rw [c1]
        exact mo_run_v0 p2 (by rw [h59, hd]; rfl) ht
      · exact mo_run_v p2 (by omega) hV.2.2.2.2.2.2.2.2 ht hD.2.2.2.1 h95 h179 (rn_ok_v hD l)
theorem op_run (h : RL S) : ∃ x S1 y S2, fn_La_run t p lim S = some (x, S1) ∧ fn_Mo_run t p lim S1 = some (y, S2) ∧ LX x y S S2 := by
  have h0 := h
  obtain ⟨pg, ds, vs, T, n, pl, m, kn, lo, l, r, hD, hc, hs, hm, hms⟩ := h
  have hcc := rn_c (t := t) (p := p) (lim := lim) hD hc hs
  have h48 := hD.2.2.2.2.1.1
  have h95 := hms.2.2.2.2.2.2.2.1
  have h179 := hms.2.2.2.2.2.2.2.2.1
  cases hr : rn (if t = 0 then pg else ds) l p lim with
  | inl E =>
    have hE := rn_E hr
    have hmm := rn_m (S := wd_n S) (t := t) (p := p) (lim := lim) hD (rm_P_o (S := S) (fun a k _ => rfl) h48 hm) h95 h179
    rw [hr] at hcc hmm
    have hcc : fn_Sp_run t p lim S = some (.inr E, wd_n S) := hcc
    have hmm : fn_Mo_run t p lim (wd_n S) = some (0, wd_i (wd_n S) 135 0 (mr_c E)) := hmm
    have hc0 : ¬mr_c E = 0 := by rcases hE with z | z | z <;> rw [z] <;> decide
    refine ⟨mr_c E, wd_n S, 0, wd_i (wd_n S) 135 0 (mr_c E), ?_, hmm, ls_x h0 hc0⟩
    unfold fn_La_run
    rw [hcc]
    rcases hE with z | z | z <;> rw [z] <;> rfl
  | inr ρ =>
    rw [hr] at hcc
    obtain ⟨Sa, a1, a2, a3, a4, a5, a6⟩ := hcc
    generalize hS1 : wd_l Sa 180 0 ρ.1.toInt64 = S1
    have f1 : ∀ a j, ¬rn_W a j → S1.1 a j = S.1 a j := fun a j q => by rw [← hS1, fr_l2]; exact a6.1 a j q
    have e180 : S1.2.1 180 0 = ρ.1.toInt64 := by rw [← hS1, fr_l1, if_pos ⟨rfl, rfl⟩]
    have er : ∀ a j, ¬cx_R a j → S1.2.2.1 a j = S.2.2.1 a j := fun a j q => by rw [← hS1, fr_l3]; exact a6.2.2.1 a j q
    have en : S1.2.2.2 = S.2.2.2 := by rw [← hS1, fr_l3]; exact a6.2.2.2
    have hmm := rn_m (S := S1) (t := t) (p := p) (lim := lim) hD (rm_P_o (S := S) (fun a k q => f1 a k (by unfold rm_K at q; unfold rn_W cx_W; omega)) h48 hm) (by rw [f1 135 95 (by unfold rn_W cx_W; omega)]; exact h95) (fun i hi => by rw [f1 179 i (by unfold rn_W cx_W; omega)]; exact h179 i hi)
    rw [hr] at hmm
    obtain ⟨S2, b1, b2, b3, b4, b5, b6, b7⟩ := hmm
    have hf : ∀ a j, ¬rn_W a j ∧ ¬mr_W a j → S2.1 a j = S.1 a j := fun a j q => by rw [b7.1 a j q.2, f1 a j q.1]
    obtain ⟨s1, s2, s3, s4, s5, s6, s7, s8, s9, s10⟩ := hs
    obtain ⟨t1, t2, t3, t4, t5, t6, t7, t8, t9, t10, t11, t12⟩ := hms
    obtain ⟨d1, d2, d3, d4, d5⟩ := hD
    refine ⟨0, S1, ρ.1, S2, ?_, b1, ?_, b2, fun _ => by rw [b7.2.1 180 0 (by unfold mr_W mgX; omega)]; exact e180, by rw [b7.2.2]; omega⟩
    · unfold fn_La_run
      rw [a1, wd_c_s]
      show (if (0 : Int32) < 0 ∨ 1 ≤ (0 : Int32).toNatClampNeg then none else _) = _
      rw [if_neg la_g, ← hS1]
      rfl
    · refine rl_mk (S := S) (l := []) (T := T) (pl := pl) (kn := kn) (r := fun i => if i = 0 then ρ.2.1 else if i = 1 then Int32.ofNat ρ.2.2.1 else Int32.ofNat ρ.2.2.2) ⟨d1, d2, d3, Nat.zero_le _, d5⟩ (fun a j q1 q2 => hf a j (by unfold rn_W cx_W mr_W mgX; omega)) (fun j q1 q2 => by rw [b7.2.2, er 1 j (by unfold cx_R; omega)]) (fun a j q => hf a j (by unfold rm_K at q; unfold rn_W cx_W mr_W mgX; omega)) hc hm ⟨by rw [← s1]; exact funext fun j => hf 3 j (by unfold rn_W cx_W mr_W mgX; omega), by rw [hf 1 1 (by unfold rn_W cx_W mr_W mgX; omega)]; exact s2, by rw [hf 1 2 (by unfold rn_W cx_W mr_W mgX; omega)]; exact s3, by rw [hf 1 12 (by unfold rn_W cx_W mr_W mgX; omega)]; exact s4, fun i hi => by rw [hf 123 i (by unfold rn_W cx_W mr_W mgX; omega)]; exact s5 i hi, by rw [hf 1 15 (by unfold rn_W cx_W mr_W mgX; omega)]; exact s6, fun i hi => by rw [hf 127 i (by unfold rn_W cx_W mr_W mgX; omega)]; exact s7 i hi, by rw [b7.1 1 18 (by unfold mr_W mgX; omega), ← hS1, fr_l2]; exact a2, fun i hi => absurd hi (Nat.not_lt_zero _), fun i hi => ?_⟩ ⟨by rw [← t1]; exact funext fun j => hf 136 j (by unfold rn_W cx_W mr_W mgX; omega), by rw [hf 135 2 (by unfold rn_W cx_W mr_W mgX; omega)]; exact t2, by rw [hf 135 10 (by unfold rn_W cx_W mr_W mgX; omega)]; exact t3, fun i hi => by rw [hf 173 i (by unfold rn_W cx_W mr_W mgX; omega)]; exact t4 i hi, fun i hi => by rw [hf 174 i (by unfold rn_W cx_W mr_W mgX; omega)]; exact t5 i hi, by rw [hf 135 89 (by unfold rn_W cx_W mr_W mgX; omega)]; exact t6, fun i hi => by rw [hf 175 i (by unfold rn_W cx_W mr_W mgX; omega)]; exact t7 i hi, b3, fun i hi => absurd hi (Nat.not_lt_zero _), b4, b5, b6⟩
      have hi3 : i = 0 ∨ i = 1 ∨ i = 2 := by omega
      have e134 : S2.1 134 i = Sa.1 134 i := by rw [b7.1 134 i (by unfold mr_W mgX; omega), ← hS1, fr_l2]
      rw [e134]
      rcases hi3 with z | z | z <;> subst z
      · exact a3
      · exact a4
      · exact a5
end Op6
