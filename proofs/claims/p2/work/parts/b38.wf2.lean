/-! What is made of trees as they should be. -/
def mk_ar (pg : pg_T) (vs : List mk_V) (k : Nat) : Nat := match vs[k]? with
  | some v => mk_lf v.2.1 (pg_n pg v.1)
  | none => 0
def wf_N (B B' : Nat → Prop) (N : mk_N) : Prop := ∀ i, B i → ∃ q, N i = some q ∧ (q.1 = false → ∃ k, k < 16 ∧ q.2 = Int32.ofNat k ∧ B' k)
def wf_Q (pg : pg_T) (r : Nat) (B B' : Nat → Prop) (N : mk_N) (vs : List mk_V) (q : mk_O) : Prop := (∀ i, B i → q.2.1 i = N i) ∧ vs <+: q.2.2.1 ∧ mk_ok pg q.2.2.1 ∧ wf_t False q.2.2.1.length (mk_ar pg q.2.2.1) r B' q.1.1
def wf_P (pg : pg_T) : Prop := pg.length ≤ 48 ∧ (∀ f, pg_n pg f ≤ 4) ∧ ∀ f, f < pg.length → wf_t True pg.length (pg_n pg) 96 (fun s => s < pg_n pg f) ((pg_P pg).getD f tr_z)
section Wf2
variable {pg : pg_T} {vs vs' : List mk_V} {B B' : Nat → Prop} {N N' : mk_N} {t : tr_T} {as : List mk_R} {f m d : Nat} {kn : Nat → Int32}
theorem mk_ar_pre (h : vs <+: vs') {k : Nat} (hk : k < vs.length) : mk_ar pg vs' k = mk_ar pg vs k := by
  obtain ⟨e, rfl⟩ := h
  unfold mk_ar
  rw [List.getElem?_append_left hk]
theorem wf_pre (h : vs <+: vs') {r : Nat} (ht : wf_t False vs.length (mk_ar pg vs) r B t) : wf_t False vs'.length (mk_ar pg vs') r B t := wf_t_m id h.length_le (fun f hf => mk_ar_pre h hf) r B t ht
theorem mk_lf_0 : ∀ n, mk_lf 0 n = n := by
  intro n
  induction n with
  | zero => rfl
  | succ n ih =>
    show mk_lf 0 n + (if mk_bt 0 n = true then 0 else 1) = n + 1
    rw [mk_bt_0, ih, if_neg (show ¬false = true by decide)]
theorem mk_kp_l : ∀ n, n ≤ as.length → mk_lf (mk_ma as) n = ((as.take n).filter (fun a => decide (¬tr_k a.1 = 1))).length := by
  intro n
  induction n with
  | zero => intro _; rfl
  | succ n ih =>
    intro hn
    show mk_lf (mk_ma as) n + (if mk_bt (mk_ma as) n = true then 0 else 1) = _
    rw [ih (by omega), List.take_succ_eq_append_getElem (show n < as.length by omega), List.filter_append, List.length_append]
    congr 1
    unfold mk_ma
    rw [mk_mk_bt, decide_eq_true (show n < as.length by omega), Bool.true_and]
    have e : mk_nb as n = decide (tr_k as[n].1 = 1) := by
      unfold mk_nb mk_at
      rw [List.getD_eq_getElem?_getD, List.getElem?_eq_getElem (show n < as.length by omega)]
      rfl
    rw [e]
    by_cases h : tr_k as[n].1 = 1
    · rw [decide_eq_true h, if_pos rfl, List.filter_cons_of_neg (by rw [decide_eq_true_iff]; exact fun q => q h)]
      rfl
    · rw [decide_eq_false h, if_neg (show ¬false = true by decide), List.filter_cons_of_pos (by rw [decide_eq_true_iff]; exact h)]
      rfl
theorem mk_kp_len : (mk_kp as).length = mk_lf (mk_ma as) as.length := by
  rw [mk_kp_l as.length (Nat.le_refl _), List.take_length]
  rfl
theorem mk_ld_ar (hl : as.length = pg_n pg f) : mk_ar pg (mk_ld f (mk_ma as) kn as vs).2.2 (mk_ld f (mk_ma as) kn as vs).1 = (mk_ld f (mk_ma as) kn as vs).2.1.length ∧ (mk_ld f (mk_ma as) kn as vs).2.1.length ≤ as.length ∧ ∀ a, a ∈ (mk_ld f (mk_ma as) kn as vs).2.1 → a ∈ as := by
  have hkp : (mk_kp as).length ≤ as.length ∧ ∀ a, a ∈ mk_kp as → a ∈ as := ⟨List.length_filter_le _ _, fun a ha => (List.mem_filter.mp ha).1⟩
  have hfd : ∀ m k, mk_fd f m kn vs 0 = some k → mk_ar pg vs k = mk_lf m (pg_n pg f) := fun m k e => by
    obtain ⟨-, h1, h2⟩ := mk_fd_lt _ _ _ e
    obtain ⟨b1, b2, -⟩ := mk_is_iff.mp h2
    unfold mk_ar
    rw [List.getElem?_eq_getElem (show k < vs.length by omega)]
    show mk_lf vs[k - 0].2.1 (pg_n pg vs[k - 0].1) = _
    rw [b1, b2]
  have hnw : ∀ m, mk_ar pg (vs ++ [mk_new f m kn]) vs.length = mk_lf m (pg_n pg f) := fun m => by
    unfold mk_ar
    rw [List.getElem?_append_right (Nat.le_refl _), Nat.sub_self]
    rfl
  unfold mk_ld
  cases e : mk_fd f (mk_ma as) kn vs 0 with
  | some k => exact ⟨by show mk_ar pg vs k = (mk_kp as).length; rw [hfd _ _ e, mk_kp_len, hl], hkp⟩
  | none =>
    dsimp only
    split
    · exact ⟨by show mk_ar pg (vs ++ [mk_new f (mk_ma as) kn]) vs.length = (mk_kp as).length; rw [hnw, mk_kp_len, hl], hkp⟩
    · cases e2 : mk_fd f 0 kn vs 0 with
      | some k => exact ⟨by show mk_ar pg vs k = as.length; rw [hfd _ _ e2, mk_lf_0, hl], Nat.le_refl _, fun a ha => ha⟩
      | none => exact ⟨by show mk_ar pg (vs ++ [mk_new f 0 kn]) vs.length = as.length; rw [hnw, mk_lf_0, hl], Nat.le_refl _, fun a ha => ha⟩
theorem pg_P_l : (pg_P pg).length = pg.length := List.length_map _
theorem mk_go_nn (hP : wf_P pg) (hf : f < pg.length) (hl : as.length = pg_n pg f) {s : mk_S} (hok : mk_ok pg s.1) (ha : ∀ a, a ∈ as → wf_t False s.1.length (mk_ar pg s.1) d B' a.1) : s.1 <+: (mk_go f as s).2.1 ∧ mk_ok pg (mk_go f as s).2.1 ∧ wf_t False (mk_go f as s).2.1.length (mk_ar pg (mk_go f as s).2.1) (d + 1) B' (mk_go f as s).1.1 := by
  have hm : mk_ma as < 2 ^ pg_n pg f := by rw [← hl]; exact mk_mk_lt _ _
  obtain ⟨o1, o2, o3⟩ := mk_ld_ok (kn := mk_kn as) (as := as) hok hf hm
  obtain ⟨l1, l2, l3⟩ := mk_ld_ar (kn := mk_kn as) (vs := s.1) hl
  have h4 := hP.2.1 f
  have h48 := hP.1
  have hlen := mk_ok_len o1
  refine ⟨o3, o1, ?_⟩
  show wf_t False (mk_ld f (mk_ma as) (mk_kn as) as s.1).2.2.length (mk_ar pg (mk_ld f (mk_ma as) (mk_kn as) as s.1).2.2) (d + 1) B' (mk_cl (mk_ld f (mk_ma as) (mk_kn as) as s.1).1 (mk_ld f (mk_ma as) (mk_kn as) as s.1).2.1).1
  generalize mk_ld f (mk_ma as) (mk_kn as) as s.1 = w at *
  have en : tr_n (mk_cl w.1 w.2.1).1 = w.1 := by
    show (Int32.ofNat w.1).toNatClampNeg = w.1
    exact im_t (by omega)
  refine Or.inr (Or.inr (Or.inr (Or.inr (Or.inl ⟨rfl, by show w.2.1.length ≤ 4; omega, by rw [en]; rfl, by rw [en]; exact o2, by rw [en]; exact l1.symm, fun j hj => ?_⟩))))
  have hj : j < w.2.1.length := hj
  have e : tr_sub (mk_cl w.1 w.2.1).1 j = w.2.1[j].1 := by
    show (w.2.1.map (fun a => a.1)).getD j tr_z = _
    rw [List.getD_eq_getElem?_getD, List.getElem?_map, List.getElem?_eq_getElem hj]
    rfl
  rw [e]
  exact wf_pre o3 (ha _ (l3 _ (List.getElem_mem hj)))
theorem mk_call_nn (hP : wf_P pg) (hf : f < pg.length) (hl : as.length = pg_n pg f) {s : mk_S} (hok : mk_ok pg s.1) (ha : ∀ a, a ∈ as → wf_t False s.1.length (mk_ar pg s.1) d B' a.1) : gd (fun w => s.1 <+: w.2.1 ∧ mk_ok pg w.2.1 ∧ wf_t False w.2.1.length (mk_ar pg w.2.1) (d + 1) B' w.1.1) (mk_call (pg_P pg) f as s) := by
  unfold mk_call
  have hev := ev_nn (fr := True) (P := pg_P pg) (ar := pg_n pg) (lim := 500) (fun f hf => ⟨96, by rw [pg_P_l] at hf ⊢; exact hP.2.2 f hf⟩) 160 96 _ (ev_l (as.map (fun a => tr_v a.1))) 0 0 _ (by rw [pg_P_l]; exact hP.2.2 f hf) (fun i hi => by
    have hi : i < pg_n pg f := hi
    exact ⟨(as.map (fun a => tr_v a.1))[i]'(by rw [List.length_map]; omega), List.getElem?_eq_getElem _⟩)
  split
  · cases e : ev (pg_P pg) 500 160 (ev_l (as.map (fun a => tr_v a.1))) 0 0 ((pg_P pg).getD f tr_z) with
    | ok q => exact ⟨List.prefix_refl _, hok, Or.inl rfl⟩
    | error u =>
      cases u with
      | none => rw [e] at hev; exact hev.elim
      | some u => exact mk_go_nn hP hf hl (s := (s.1, s.2.1, s.2.2.1 + 1, s.2.2.2)) hok ha
  · exact mk_go_nn hP hf hl hok ha
theorem wf_N_e (h : wf_N B B' N) (he : ∀ i, B i → N' i = N i) : wf_N B B' N' := fun i hi => by
  rw [he i hi]
  exact h i hi
theorem mk_args_nn {self : mk_P} : ∀ (r j : Nat) (N : mk_N) (s : mk_S), (∀ i, i < j + r → ∀ N s, wf_N B B' N → mk_ok pg s.1 → gd (wf_Q pg d B B' N s.1) (self N s (tr_sub t i))) → wf_N B B' N → mk_ok pg s.1 → gd (fun q => q.1.length = r ∧ (∀ i, B i → q.2.1 i = N i) ∧ s.1 <+: q.2.2.1 ∧ mk_ok pg q.2.2.1 ∧ ∀ a, a ∈ q.1 → wf_t False q.2.2.1.length (mk_ar pg q.2.2.1) d B' a.1) (mk_args self t r j N s) := by
  intro r
  induction r with
  | zero => intro j N s _ _ hok; exact ⟨rfl, fun _ _ => rfl, List.prefix_refl _, hok, fun a ha => absurd ha List.not_mem_nil⟩
  | succ r ih =>
    intro j N s hs hN hok
    refine gd_mk (hs j (by omega) N s hN hok) (fun q hq => ?_)
    obtain ⟨q1, q2, q3, q4⟩ := hq
    refine gd_mk (ih (j + 1) q.2.1 q.2.2 (fun i hi => hs i (by omega)) (wf_N_e hN q1) q3) (fun w hw => ?_)
    obtain ⟨w1, w2, w3, w4, w5⟩ := hw
    refine ⟨by show w.1.length + 1 = r + 1; rw [w1], fun i hi => by show w.2.1 i = N i; rw [w2 i hi, q1 i hi], q2.trans w3, w4, fun a ha => ?_⟩
    have ha : a ∈ q.1 :: w.1 := ha
    rcases List.mem_cons.mp ha with rfl | ha
    · exact wf_pre w3 q4
    · exact w5 a ha
theorem mk_nn_t (hP : wf_P pg) : ∀ (r : Nat) (N : mk_N) (s : mk_S) (t : tr_T) (B B' : Nat → Prop), wf_t True pg.length (pg_n pg) r B t → wf_N B B' N → mk_ok pg s.1 → gd (wf_Q pg r B B' N s.1) (mk pg r N s t) := by
  intro r
  induction r with
  | zero => intro N s t B B' ht _ _; exact ht.elim
  | succ r ih =>
    intro N s t B B' ht hN hok
    unfold mk
    split
    · trivial
    · have ht : wf_b True pg.length (pg_n pg) (wf_t True pg.length (pg_n pg) r) B t := ht
      generalize hs1 : ((s.1, s.2.1 + 1, s.2.2) : mk_S) = s1
      have e1 : s1.1 = s.1 := by rw [← hs1]
      rw [← e1] at hok ⊢
      unfold mk_in
      rw [if_pos (wf_ok ht)]
      rcases ht with h | ⟨a1, a2, a3, a4⟩ | ⟨a1, a2, a3, a4, a5, a6, a7⟩ | ⟨a1, a2, a3, a4, a5⟩ | ⟨a1, a2, a3, a4, a5, a6⟩ | ⟨a1, a2, a3, a4⟩
      · rw [if_pos h]
        exact ⟨fun _ _ => rfl, List.prefix_refl _, hok, Or.inl rfl⟩
      · rw [a1, if_neg (show ¬(2 : Int32) = 1 by decide), if_pos rfl]
        obtain ⟨q, q1, q2⟩ := hN _ a4
        rw [q1]
        refine ⟨fun _ _ => rfl, List.prefix_refl _, hok, ?_⟩
        show wf_t False s1.1.length (mk_ar pg s1.1) (r + 1) B' (mk_name q).1
        unfold mk_name
        by_cases e : q.1 = true
        · rw [if_pos e]
          exact Or.inl rfl
        · rw [if_neg e]
          obtain ⟨k, k1, k2, k3⟩ := q2 (Bool.eq_false_iff.mpr e)
          have en : tr_n (tr_l 2 q.2 0) = k := by
            show q.2.toNatClampNeg = k
            rw [k2, im_t (by omega)]
          exact Or.inr (Or.inl ⟨rfl, by rw [en]; exact k2, by rw [en]; exact k1, by rw [en]; exact k3⟩)
      · rw [a1, if_neg (show ¬(3 : Int32) = 1 by decide), if_neg (show ¬(3 : Int32) = 2 by decide), if_pos rfl]
        unfold mk_let
        refine gd_mk (ih N s1 _ B B' a6 hN hok) (fun q hq => ?_)
        obtain ⟨q1, q2, q3, q4⟩ := hq
        have hne : ∀ i, B i → ¬i = tr_n t := fun i hi e => a5 trivial (by rw [← e]; exact hi)
        by_cases e : tr_k q.1.1 = 1
        · rw [if_pos e]
          refine gd_m (ih (mk_u q.2.1 (tr_n t) (true, tr_v q.1.1)) q.2.2 _ _ B' a7 (fun i hi => ?_) q3) (fun w hw => ?_)
          · unfold mk_u
            by_cases ei : i = tr_n t
            · exact ⟨_, if_pos ei, fun z => by cases z⟩
            · rw [if_neg ei]
              exact wf_N_e hN q1 i (hi.resolve_right ei)
          · obtain ⟨w1, w2, w3, w4⟩ := hw
            refine ⟨fun i hi => ?_, q2.trans w2, w3, wf_t_s _ _ _ w4⟩
            rw [w1 i (Or.inl hi)]
            unfold mk_u
            rw [if_neg (hne i hi), q1 i hi]
        · rw [if_neg e]
          refine gd_mk (ih (mk_u q.2.1 (tr_n t) (false, tr_v t)) q.2.2 _ _ (fun x => B' x ∨ x = tr_n t) a7 (fun i hi => ?_) q3) (fun w hw => ?_)
          · unfold mk_u
            by_cases ei : i = tr_n t
            · exact ⟨_, if_pos ei, fun _ => ⟨tr_n t, a3, a2, Or.inr rfl⟩⟩
            · rw [if_neg ei]
              obtain ⟨x, x1, x2⟩ := wf_N_e hN q1 i (hi.resolve_right ei)
              refine ⟨x, x1, fun z => ?_⟩
              obtain ⟨k, k1, k2, k3⟩ := x2 z
              exact ⟨k, k1, k2, Or.inl k3⟩
          · obtain ⟨w1, w2, w3, w4⟩ := hw
            refine ⟨fun i hi => ?_, q2.trans w2, w3, ?_⟩
            · show w.2.1 i = N i
              rw [w1 i (Or.inl hi)]
              unfold mk_u
              rw [if_neg (hne i hi), q1 i hi]
            · exact Or.inr (Or.inr (Or.inl ⟨rfl, a2, a3, rfl, fun z => z.elim, wf_pre w2 q4, w4⟩))
      · rw [a1, if_neg (show ¬(4 : Int32) = 1 by decide), if_neg (show ¬(4 : Int32) = 2 by decide), if_neg (show ¬(4 : Int32) = 3 by decide), if_pos rfl]
        unfold mk_if
        refine gd_mk (ih N s1 _ B B' a3 hN hok) (fun q hq => ?_)
        obtain ⟨q1, q2, q3, q4⟩ := hq
        by_cases e : tr_k q.1.1 = 1
        · rw [if_pos e]
          have hz : wf_t True pg.length (pg_n pg) r B (tr_sub t (if tr_v q.1.1 = 0 then 2 else 1)) := by
            split
            · exact a5
            · exact a4
          refine gd_m (ih q.2.1 q.2.2 _ B B' hz (wf_N_e hN q1) q3) (fun w hw => ?_)
          obtain ⟨w1, w2, w3, w4⟩ := hw
          exact ⟨fun i hi => by rw [w1 i hi, q1 i hi], q2.trans w2, w3, wf_t_s _ _ _ w4⟩
        · rw [if_neg e]
          refine gd_mk (ih q.2.1 q.2.2 _ B B' a4 (wf_N_e hN q1) q3) (fun w hw => ?_)
          obtain ⟨w1, w2, w3, w4⟩ := hw
          have hw1 : ∀ i, B i → w.2.1 i = N i := fun i hi => by rw [w1 i hi, q1 i hi]
          refine gd_mk (ih w.2.1 w.2.2 _ B B' a5 (wf_N_e hN hw1) w3) (fun u hu => ?_)
          obtain ⟨u1, u2, u3, u4⟩ := hu
          exact ⟨fun i hi => by show u.2.1 i = N i; rw [u1 i hi, hw1 i hi], q2.trans (w2.trans u2), u3, Or.inr (Or.inr (Or.inr (Or.inl ⟨rfl, rfl, wf_pre (w2.trans u2) q4, wf_pre u2 w4, u4⟩)))⟩
      · rw [a1, if_neg (show ¬(5 : Int32) = 1 by decide), if_neg (show ¬(5 : Int32) = 2 by decide), if_neg (show ¬(5 : Int32) = 3 by decide), if_neg (show ¬(5 : Int32) = 4 by decide), if_pos rfl, if_pos a5]
        unfold mk_ca
        refine gd_mk (mk_args_nn (d := r) (B := B) (B' := B') (tr_a t) 0 N s1 (fun i hi N s hN hok => ih N s _ B B' (a6 i (by omega)) hN hok) hN hok) (fun q hq => ?_)
        obtain ⟨q0, q1, q2, q3, q4⟩ := hq
        refine gd_mk (mk_call_nn hP a4 (by rw [q0]; exact a5) q3 q4) (fun w hw => ?_)
        exact ⟨q1, q2.trans hw.1, hw.2.1, hw.2.2⟩
      · have nk : ¬tr_k t = 1 ∧ ¬tr_k t = 2 ∧ ¬tr_k t = 3 ∧ ¬tr_k t = 4 ∧ ¬tr_k t = 5 := by
          rcases a1 with z | z | z | z | z <;> rw [z] <;> decide
        rw [if_neg nk.1, if_neg nk.2.1, if_neg nk.2.2.1, if_neg nk.2.2.2.1, if_neg nk.2.2.2.2]
        unfold mk_sg
        refine gd_mk (ih N s1 _ B B' a3 hN hok) (fun q hq => ?_)
        obtain ⟨q1, q2, q3, q4⟩ := hq
        refine gd_mk (ih q.2.1 q.2.2 _ B B' a4 (wf_N_e hN q1) q3) (fun w hw => ?_)
        obtain ⟨w1, w2, w3, w4⟩ := hw
        have hw1 : ∀ i, B i → w.2.1 i = N i := fun i hi => by rw [w1 i hi, q1 i hi]
        split
        · exact ⟨hw1, q2.trans w2, w3, Or.inl rfl⟩
        · exact ⟨hw1, q2.trans w2, w3, Or.inr (Or.inr (Or.inr (Or.inr (Or.inr ⟨a1, rfl, wf_pre w2 q4, w4⟩))))⟩
end Wf2
