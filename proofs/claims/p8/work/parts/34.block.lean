/-! Straight pieces of code over the typed state. -/
theorem bk_in {j pc : Nat} {i : Instr} {l : List (Nat × Instr)} (hl : l.all (tb_chk j) = true) (h : sy_find pc l = some i) : mi_is tb_P j pc = some i ∧ mi_th tb_P j pc = none := by
  have h3 := List.all_eq_true.mp hl _ (sy_find_mem h)
  unfold tb_chk at h3
  simp only [Bool.and_eq_true, decide_eq_true_eq, Option.isNone_iff_eq_none] at h3
  exact h3
noncomputable def bk_1 (l : List (Nat × Instr)) (nL pc : Nat) (lv : mi_L) (st : List Value) : Option (Nat × mi_L × List Value) := match sy_find pc l with
  | some i => (match sy_kd i with
    | 0 => (mi_pure i st).map (fun r => (pc + mi_len i, lv, r))
    | 1 => (mi_loc nL i lv st).map (fun q => (pc + mi_len i, q.1, q.2))
    | 2 => (match i with
      | .goto off => (mi_tgt pc off).map (fun t => (t, lv, st))
      | _ => none)
    | _ => none)
  | none => none
noncomputable def bk_n (l : List (Nat × Instr)) (nL : Nat) : Nat → Nat → mi_L → List Value → Option (Nat × mi_L × List Value)
  | 0, pc, lv, st => some (pc, lv, st)
  | n + 1, pc, lv, st => match bk_1 l nL pc lv st with
    | some q => bk_n l nL n q.1 q.2.1 q.2.2
    | none => none
section Bk
variable {L : Nat} {xs : Nat → Int32} {d j pc pc' : Nat} {lv : mi_L} {st : List Value} {h : mi_H} {r : mi_O × mi_H} {l : List (Nat × Instr)} {S : wd_S}
theorem bk_s {q : Nat × mi_L × List Value} (hl : l.all (tb_chk j) = true) (hm : bk_1 l (mi_mx tb_P j) pc lv st = some q) (hg : go_r tb_P L xs d j q.1 q.2.1 q.2.2 h r) : go_r tb_P L xs d j pc lv st h r := by
  unfold bk_1 at hm
  split at hm
  · next i hi =>
    obtain ⟨h1, h2⟩ := bk_in hl hi
    split at hm
    · obtain ⟨w, hw, e1⟩ := Option.map_eq_some_iff.mp hm
      cases e1
      exact go_s (fun _ => sy_step0 h2 h1 hw) hg
    · obtain ⟨w, hw, e1⟩ := Option.map_eq_some_iff.mp hm
      cases e1
      exact go_s (fun _ => sy_step1 h2 h1 hw) hg
    · split at hm
      · obtain ⟨w, hw, e1⟩ := Option.map_eq_some_iff.mp hm
        cases e1
        exact go_s (fun _ => sy_step2 h2 h1 (show mi_jmp (.goto _) pc st = some (w, st) by unfold mi_jmp; simp only [hw, Option.map_some])) hg
      · cases hm
    · cases hm
  · cases hm
theorem bk_b {nL : Nat} {q : Nat × mi_L × List Value} (hl : l.all (tb_chk j) = true) (hx : mi_mx tb_P j = nL) (n : Nat) (hm : bk_n l nL n pc lv st = some q) (hg : go_r tb_P L xs d j q.1 q.2.1 q.2.2 h r) : go_r tb_P L xs d j pc lv st h r := by
  subst hx
  induction n generalizing pc lv st with
  | zero => cases hm; exact hg
  | succ n ih =>
    rw [bk_n] at hm
    cases h1 : bk_1 l (mi_mx tb_P j) pc lv st with
    | none => rw [h1] at hm; cases hm
    | some w =>
      rw [h1] at hm
      exact bk_s hl h1 (ih hm)
theorem bk_h {i : Instr} {q : List Value × mi_H} (hl : l.all (tb_chk j) = true) (hi : sy_find pc l = some i) (hp : pc + mi_len i = pc') (hh : mi_heap tb_P L xs j i st h = some q) (hg : go_r tb_P L xs d j pc' lv q.1 q.2 r) : go_r tb_P L xs d j pc lv st h r := by
  subst hp
  exact go_s (fun _ => sy_step3 (bk_in hl hi).2 (bk_in hl hi).1 hh) hg
section BkF
variable {ix ci k z a : Nat} {w : Bool}
theorem bk_gi (hl : l.all (tb_chk j) = true) (hi : sy_find pc l = some (.getfield ix)) (hp : pc + 3 = pc') (hf : mi_fl tb_P j ix = some (ci, k, w)) (ht : tp_t a = (0, ci)) (hq : (tp_f ci)[k]? = some (0, z)) (hg : go_r tb_P L xs d j pc' lv (.int (S.1 a k) :: st) (wd_k S) r) : go_r tb_P L xs d j pc lv (.ref a :: st) (wd_k S) r :=
  bk_h hl hi hp (show (mi_get_f tb_P j ix a (wd_k S)).map _ = some (.int (S.1 a k) :: st, wd_k S) by rw [wd_gf hf ht hq]; rfl) hg
theorem bk_gl (hl : l.all (tb_chk j) = true) (hi : sy_find pc l = some (.getfield ix)) (hp : pc + 3 = pc') (hf : mi_fl tb_P j ix = some (ci, k, w)) (ht : tp_t a = (0, ci)) (hq : (tp_f ci)[k]? = some (3, z)) (hg : go_r tb_P L xs d j pc' lv (.long (S.2.1 a k) :: st) (wd_k S) r) : go_r tb_P L xs d j pc lv (.ref a :: st) (wd_k S) r :=
  bk_h hl hi hp (show (mi_get_f tb_P j ix a (wd_k S)).map _ = some (.long (S.2.1 a k) :: st, wd_k S) by rw [wd_gf hf ht hq]; rfl) hg
theorem bk_gc {b : Nat} (hl : l.all (tb_chk j) = true) (hi : sy_find pc l = some (.getfield ix)) (hp : pc + 3 = pc') (hf : mi_fl tb_P j ix = some (ci, k, w)) (ht : tp_t a = (0, ci)) (hq : (tp_f ci)[k]? = some (1, b)) (hg : go_r tb_P L xs d j pc' lv (.ref b :: st) (wd_k S) r) : go_r tb_P L xs d j pc lv (.ref a :: st) (wd_k S) r :=
  bk_h hl hi hp (show (mi_get_f tb_P j ix a (wd_k S)).map _ = some (.ref b :: st, wd_k S) by rw [wd_gf hf ht hq]; rfl) hg
theorem bk_gm (hl : l.all (tb_chk j) = true) (hi : sy_find pc l = some (.getfield ix)) (hp : pc + 3 = pc') (hf : mi_fl tb_P j ix = some (ci, k, w)) (ht : tp_t a = (0, ci)) (hq : (tp_f ci)[k]? = some (2, z)) (hg : go_r tb_P L xs d j pc' lv (.ref (S.2.2.1 a k) :: st) (wd_k S) r) : go_r tb_P L xs d j pc lv (.ref a :: st) (wd_k S) r :=
  bk_h hl hi hp (show (mi_get_f tb_P j ix a (wd_k S)).map _ = some (.ref (S.2.2.1 a k) :: st, wd_k S) by rw [wd_gf hf ht hq]; rfl) hg
theorem bk_go {b : Nat} (hl : l.all (tb_chk j) = true) (hi : sy_find pc l = some (.getfield ix)) (hp : pc + 3 = pc') (hf : mi_fl tb_P j ix = some (ci, k, w)) (ht : tp_t a = (0, ci)) (hq : (tp_f ci)[k]? = some (4, b)) (hg : go_r tb_P L xs d j pc' lv (.ref (a + b) :: st) (wd_k S) r) : go_r tb_P L xs d j pc lv (.ref a :: st) (wd_k S) r :=
  bk_h hl hi hp (show (mi_get_f tb_P j ix a (wd_k S)).map _ = some (.ref (a + b) :: st, wd_k S) by rw [wd_gf hf ht hq]; rfl) hg
theorem bk_pi {v : Int32} (hl : l.all (tb_chk j) = true) (hi : sy_find pc l = some (.putfield ix)) (hp : pc + 3 = pc') (hf : mi_fl tb_P j ix = some (ci, k, true)) (ht : tp_t a = (0, ci)) (hq : (tp_f ci)[k]? = some (0, z)) (hfit : mi_fit (mi_ft tb_P ci k) (.int v) = true) (hg : go_r tb_P L xs d j pc' lv st (wd_k (wd_i S a k v)) r) : go_r tb_P L xs d j pc lv (.int v :: .ref a :: st) (wd_k S) r :=
  bk_h hl hi hp (show (mi_put_f tb_P j ix a (.int v) (wd_k S)).map _ = some (st, wd_k (wd_i S a k v)) by rw [wd_pi hf ht hq hfit]; rfl) hg
theorem bk_pl {v : Int64} (hl : l.all (tb_chk j) = true) (hi : sy_find pc l = some (.putfield ix)) (hp : pc + 3 = pc') (hf : mi_fl tb_P j ix = some (ci, k, true)) (ht : tp_t a = (0, ci)) (hq : (tp_f ci)[k]? = some (3, z)) (hfit : mi_fit (mi_ft tb_P ci k) (.long v) = true) (hg : go_r tb_P L xs d j pc' lv st (wd_k (wd_l S a k v)) r) : go_r tb_P L xs d j pc lv (.long v :: .ref a :: st) (wd_k S) r :=
  bk_h hl hi hp (show (mi_put_f tb_P j ix a (.long v) (wd_k S)).map _ = some (st, wd_k (wd_l S a k v)) by rw [wd_pl hf ht hq hfit]; rfl) hg
theorem bk_pr {v : Nat} (hl : l.all (tb_chk j) = true) (hi : sy_find pc l = some (.putfield ix)) (hp : pc + 3 = pc') (hf : mi_fl tb_P j ix = some (ci, k, true)) (ht : tp_t a = (0, ci)) (hq : (tp_f ci)[k]? = some (2, z)) (hfit : mi_fit (mi_ft tb_P ci k) (.ref v) = true) (hg : go_r tb_P L xs d j pc' lv st (wd_k (wd_r S a k v)) r) : go_r tb_P L xs d j pc lv (.ref v :: .ref a :: st) (wd_k S) r :=
  bk_h hl hi hp (show (mi_put_f tb_P j ix a (.ref v) (wd_k S)).map _ = some (st, wd_k (wd_r S a k v)) by rw [wd_pr hf ht hq hfit]; rfl) hg
end BkF
section BkA
variable {a n : Nat} {x : Int32}
theorem bk_a4 (hl : l.all (tb_chk j) = true) (hi : sy_find pc l = some .iaload) (hp : pc + 1 = pc') (ht : tp_t a = (1, n)) (hx : ¬(x < 0 ∨ n ≤ x.toNatClampNeg)) (hg : go_r tb_P L xs d j pc' lv (.int (S.1 a x.toNatClampNeg) :: st) (wd_k S) r) : go_r tb_P L xs d j pc lv (.int x :: .ref a :: st) (wd_k S) r :=
  bk_h hl hi hp (show (mi_ld_i4 L xs a x (wd_k S)).map _ = some (.int (S.1 a x.toNatClampNeg) :: st, wd_k S) by rw [wd_a4 ht hx]; rfl) hg
theorem bk_a8 (hl : l.all (tb_chk j) = true) (hi : sy_find pc l = some .laload) (hp : pc + 1 = pc') (ht : tp_t a = (2, n)) (hx : ¬(x < 0 ∨ n ≤ x.toNatClampNeg)) (hg : go_r tb_P L xs d j pc' lv (.long (S.2.1 a x.toNatClampNeg) :: st) (wd_k S) r) : go_r tb_P L xs d j pc lv (.int x :: .ref a :: st) (wd_k S) r :=
  bk_h hl hi hp (show (mi_ld_i8 a x (wd_k S)).map _ = some (.long (S.2.1 a x.toNatClampNeg) :: st, wd_k S) by rw [wd_a8 ht hx]; rfl) hg
theorem bk_a1 (hl : l.all (tb_chk j) = true) (hi : sy_find pc l = some .baload) (hp : pc + 1 = pc') (ht : tp_t a = (3, n)) (hx : ¬(x < 0 ∨ n ≤ x.toNatClampNeg)) (hg : go_r tb_P L xs d j pc' lv (.int (S.1 a x.toNatClampNeg) :: st) (wd_k S) r) : go_r tb_P L xs d j pc lv (.int x :: .ref a :: st) (wd_k S) r :=
  bk_h hl hi hp (show (mi_ld_i1 a x (wd_k S)).map _ = some (.int (S.1 a x.toNatClampNeg) :: st, wd_k S) by rw [wd_a1 ht hx]; rfl) hg
theorem bk_s4 {v : Int32} (hl : l.all (tb_chk j) = true) (hi : sy_find pc l = some .iastore) (hp : pc + 1 = pc') (ht : tp_t a = (1, n)) (hx : ¬(x < 0 ∨ n ≤ x.toNatClampNeg)) (hg : go_r tb_P L xs d j pc' lv st (wd_k (wd_i S a x.toNatClampNeg v)) r) : go_r tb_P L xs d j pc lv (.int v :: .int x :: .ref a :: st) (wd_k S) r :=
  bk_h hl hi hp (show (mi_as_i4 a x v (wd_k S)).map _ = some (st, wd_k (wd_i S a x.toNatClampNeg v)) by rw [wd_s4 ht hx]; rfl) hg
theorem bk_s8 {v : Int64} (hl : l.all (tb_chk j) = true) (hi : sy_find pc l = some .lastore) (hp : pc + 1 = pc') (ht : tp_t a = (2, n)) (hx : ¬(x < 0 ∨ n ≤ x.toNatClampNeg)) (hg : go_r tb_P L xs d j pc' lv st (wd_k (wd_l S a x.toNatClampNeg v)) r) : go_r tb_P L xs d j pc lv (.long v :: .int x :: .ref a :: st) (wd_k S) r :=
  bk_h hl hi hp (show (mi_as_i8 a x v (wd_k S)).map _ = some (st, wd_k (wd_l S a x.toNatClampNeg v)) by rw [wd_s8 ht hx]; rfl) hg
theorem bk_s1 {v : Int32} (hl : l.all (tb_chk j) = true) (hi : sy_find pc l = some .bastore) (hp : pc + 1 = pc') (ht : tp_t a = (3, n)) (hx : ¬(x < 0 ∨ n ≤ x.toNatClampNeg)) (hv : mi_fit .boolean (.int v) = true) (hg : go_r tb_P L xs d j pc' lv st (wd_k (wd_i S a x.toNatClampNeg v)) r) : go_r tb_P L xs d j pc lv (.int v :: .int x :: .ref a :: st) (wd_k S) r :=
  bk_h hl hi hp (show (mi_as_i1 a x v (wd_k S)).map _ = some (st, wd_k (wd_i S a x.toNatClampNeg v)) by rw [wd_s1 ht hx hv]; rfl) hg
theorem bk_al {kd : Nat} (hl : l.all (tb_chk j) = true) (hi : sy_find pc l = some .arraylength) (hp : pc + 1 = pc') (ht : tp_t a = (kd, n)) (hk : kd = 1 ∨ kd = 2 ∨ kd = 3) (hg : go_r tb_P L xs d j pc' lv (.int (Int32.ofNat n) :: st) (wd_k S) r) : go_r tb_P L xs d j pc lv (.ref a :: st) (wd_k S) r :=
  bk_h hl hi hp (show (mi_alen L a (wd_k S)).map _ = some (.int (Int32.ofNat n) :: st, wd_k S) by
    rw [wd_al (n := n) (by rcases hk with rfl | rfl | rfl; exact Or.inl ht; exact Or.inr (Or.inl ht); exact Or.inr (Or.inr ht))]; rfl) hg
end BkA
theorem bk_c4 {ix : Nat} {x : Int32} (hl : l.all (tb_chk j) = true) (hi : sy_find pc l = some (.ldc ix)) (hp : pc + 2 = pc') (hc : mi_cs tb_P j ix = some (.int x)) (hg : go_r tb_P L xs d j pc' lv (.int x :: st) h r) : go_r tb_P L xs d j pc lv st h r :=
  bk_h hl hi hp (q := (.int x :: st, h)) (by unfold mi_heap; simp only [hc]) hg
theorem bk_c3 {ix : Nat} {x : Int32} (hl : l.all (tb_chk j) = true) (hi : sy_find pc l = some (.ldc_w ix)) (hp : pc + 3 = pc') (hc : mi_cs tb_P j ix = some (.int x)) (hg : go_r tb_P L xs d j pc' lv (.int x :: st) h r) : go_r tb_P L xs d j pc lv st h r :=
  bk_h hl hi hp (q := (.int x :: st, h)) (by unfold mi_heap; simp only [hc]) hg
theorem bk_c8 {ix : Nat} {x : Int64} (hl : l.all (tb_chk j) = true) (hi : sy_find pc l = some (.ldc2_w ix)) (hp : pc + 3 = pc') (hc : mi_cs tb_P j ix = some (.long x)) (hg : go_r tb_P L xs d j pc' lv (.long x :: st) h r) : go_r tb_P L xs d j pc lv st h r :=
  bk_h hl hi hp (q := (.long x :: st, h)) (by unfold mi_heap; simp only [hc]) hg
/-! calls -/
theorem bk_k {i : Instr} {k kind n ix : Nat} {as rest : List Value} {v : Option Value} {g : mi_H} (hl : l.all (tb_chk j) = true) (hi : sy_find pc l = some i) (hkd : sy_kd i = 5) (hp : pc + 3 = pc') (hs : mi_site tb_P j i = some (k, kind, n, ix)) (h3 : kind ≠ 3) (h6 : kind ≠ 6) (ha : mi_cargs kind n st = some (as, rest)) (hw : Nat.ble (mi_wt rest) 8 = true) (hrc : kind = 0 → mi_rc tb_P k h as = true) (he : ev_r tb_P L xs d k as h (.inl v, g)) (hg : go_r tb_P L xs d j pc' lv (v.toList ++ rest) g r) : go_r tb_P L xs d j pc lv st h r := by
  subst hp
  refine go_c he (q := (pc + 3, lv, v.toList ++ rest, g)) (fun c hc => ?_) hg
  refine sy_step5 (bk_in hl hi).2 (bk_in hl hi).1 hkd ?_
  unfold mi_inv
  rw [hs]
  simp only []
  rw [if_neg h3, if_neg h6, ha]
  simp only []
  rw [if_pos ⟨Nat.le_of_ble_eq_true hw, hrc⟩, hc]
theorem bk_kv {ix k n ix' a ci : Nat} {as rest : List Value} {v : Option Value} {g : mi_H} (hl : l.all (tb_chk j) = true) (hi : sy_find pc l = some (.invokevirtual ix)) (hp : pc + 3 = pc') (hs : mi_site tb_P j (.invokevirtual ix) = some (k, 0, n, ix')) (ha : mi_cargs 0 n st = some (.ref a :: as, rest)) (hw : Nat.ble (mi_wt rest) 8 = true) (ht : tp_t a = (0, ci)) (hc : mi_kc tb_P k = ci) (he : ev_r tb_P L xs d k (.ref a :: as) (wd_k S) (.inl v, g)) (hg : go_r tb_P L xs d j pc' lv (v.toList ++ rest) g r) : go_r tb_P L xs d j pc lv st (wd_k S) r :=
  bk_k hl hi rfl hp hs (by decide) (by decide) ha hw (fun _ => wd_rc ht hc) he hg
theorem bk_ks {ix k kind n ix' : Nat} {as rest : List Value} {v : Option Value} {g : mi_H} (hl : l.all (tb_chk j) = true) (hi : sy_find pc l = some (.invokestatic ix)) (hp : pc + 3 = pc') (hs : mi_site tb_P j (.invokestatic ix) = some (k, kind, n, ix')) (hk : kind = 1 ∨ kind = 4 ∨ kind = 5) (ha : mi_cargs kind n st = some (as, rest)) (hw : Nat.ble (mi_wt rest) 8 = true) (he : ev_r tb_P L xs d k as h (.inl v, g)) (hg : go_r tb_P L xs d j pc' lv (v.toList ++ rest) g r) : go_r tb_P L xs d j pc lv st h r :=
  bk_k hl hi rfl hp hs (by omega) (by omega) ha hw (fun h0 => by omega) he hg
theorem bk_t {i : Instr} {v : Option Value} (hl : l.all (tb_chk j) = true) (hi : sy_find pc l = some i) (hr : mi_ret (mi_rt tb_P j) i st = some v) : go_r tb_P L xs d j pc lv st h (.inl v, h) :=
  go_e (fun _ => sy_step4 (bk_in hl hi).2 (bk_in hl hi).1 hr)
theorem bk_x {E : String} (hE : mi_th tb_P j pc = some E) : go_r tb_P L xs d j pc lv [] (wd_k S) (.inr E, wd_k (wd_n S)) := by
  refine go_e (fun c => ?_)
  unfold mi_step
  rw [hE]
  simp only []
  rw [wd_th]
  rfl
/-! jumps -/
theorem bk_jt {k : ClassFile.Cond} {off : Int} {x y : Int32} (hl : l.all (tb_chk j) = true) (hi : sy_find pc l = some (.if_icmp k off)) (ht : mi_tgt pc off = some pc') (hc : mi_cmp k x y = true) (hg : go_r tb_P L xs d j pc' lv st h r) : go_r tb_P L xs d j pc lv (.int y :: .int x :: st) h r :=
  go_s (fun _ => sy_step2 (bk_in hl hi).2 (bk_in hl hi).1 (show (mi_tgt pc off).map _ = some (pc', st) by rw [ht, hc]; rfl)) hg
theorem bk_jf {k : ClassFile.Cond} {off : Int} {x y : Int32} {t : Nat} (hl : l.all (tb_chk j) = true) (hi : sy_find pc l = some (.if_icmp k off)) (hp : pc + 3 = pc') (ht : mi_tgt pc off = some t) (hc : mi_cmp k x y = false) (hg : go_r tb_P L xs d j pc' lv st h r) : go_r tb_P L xs d j pc lv (.int y :: .int x :: st) h r := by
  subst hp
  exact go_s (fun _ => sy_step2 (bk_in hl hi).2 (bk_in hl hi).1 (show (mi_tgt pc off).map _ = some (pc + 3, st) by rw [ht, hc]; rfl)) hg
theorem bk_zt {k : ClassFile.Cond} {off : Int} {x : Int32} (hl : l.all (tb_chk j) = true) (hi : sy_find pc l = some (.ifCond k off)) (ht : mi_tgt pc off = some pc') (hc : mi_cmp k x 0 = true) (hg : go_r tb_P L xs d j pc' lv st h r) : go_r tb_P L xs d j pc lv (.int x :: st) h r :=
  go_s (fun _ => sy_step2 (bk_in hl hi).2 (bk_in hl hi).1 (show (mi_tgt pc off).map _ = some (pc', st) by rw [ht, hc]; rfl)) hg
theorem bk_zf {k : ClassFile.Cond} {off : Int} {x : Int32} {t : Nat} (hl : l.all (tb_chk j) = true) (hi : sy_find pc l = some (.ifCond k off)) (hp : pc + 3 = pc') (ht : mi_tgt pc off = some t) (hc : mi_cmp k x 0 = false) (hg : go_r tb_P L xs d j pc' lv st h r) : go_r tb_P L xs d j pc lv (.int x :: st) h r := by
  subst hp
  exact go_s (fun _ => sy_step2 (bk_in hl hi).2 (bk_in hl hi).1 (show (mi_tgt pc off).map _ = some (pc + 3, st) by rw [ht, hc]; rfl)) hg
theorem bk_sw {i : Instr} (hl : l.all (tb_chk j) = true) (hi : sy_find pc l = some i) {x : Int32} (hj : mi_jmp i pc (.int x :: st) = some (pc', st)) (hg : go_r tb_P L xs d j pc' lv st h r) : go_r tb_P L xs d j pc lv (.int x :: st) h r :=
  go_s (fun _ => sy_step2 (bk_in hl hi).2 (bk_in hl hi).1 hj) hg
end Bk
section Cm
variable {x y : Int32}
theorem cm_eq_t (h : x = y) : mi_cmp .eq x y = true := decide_eq_true h
theorem cm_eq_f (h : ¬x = y) : mi_cmp .eq x y = false := decide_eq_false h
theorem cm_ne_t (h : ¬x = y) : mi_cmp .ne x y = true := by show (!decide (x = y)) = true; rw [decide_eq_false h]; rfl
theorem cm_ne_f (h : x = y) : mi_cmp .ne x y = false := by show (!decide (x = y)) = false; rw [decide_eq_true h]; rfl
theorem cm_lt_t (h : x < y) : mi_cmp .lt x y = true := decide_eq_true h
theorem cm_lt_f (h : ¬x < y) : mi_cmp .lt x y = false := decide_eq_false h
theorem cm_nlt (h : ¬x < y) : y ≤ x := Int32.not_lt.mp h
theorem cm_ge_t (h : ¬x < y) : mi_cmp .ge x y = true := decide_eq_true (Int32.not_lt.mp h)
theorem cm_ge_f (h : x < y) : mi_cmp .ge x y = false := decide_eq_false (fun q => Int32.not_lt.mpr q h)
theorem cm_gt_t (h : y < x) : mi_cmp .gt x y = true := decide_eq_true h
theorem cm_gt_f (h : ¬y < x) : mi_cmp .gt x y = false := decide_eq_false h
theorem cm_le_t (h : ¬y < x) : mi_cmp .le x y = true := decide_eq_true (Int32.not_lt.mp h)
theorem cm_le_f (h : y < x) : mi_cmp .le x y = false := decide_eq_false (fun q => Int32.not_lt.mpr q h)
end Cm
