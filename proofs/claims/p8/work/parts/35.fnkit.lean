/-! What the methods' functions are made of. -/
def wd_F : Nat := 1000000
def wd_b {α : Type} (x : wd_S) (f : wd_S → Option α) : Option α := f x
def wd_c {α β : Type} (m : Option (α × wd_S)) (f : α → wd_S → Option β) : Option β := match m with
  | some q => f q.1 q.2
  | none => none
def wd_d {β : Type} (m : Option wd_S) (f : wd_S → Option β) : Option β := match m with
  | some q => f q
  | none => none
def wd_o {α β : Type} (o : α ⊕ String) (f : α → Option β) (g : String → Option β) : Option β := match o with
  | .inl x => f x
  | .inr E => g E
def wd_wi (o : Int32 ⊕ String) : mi_O := match o with
  | .inl x => .inl (some (.int x))
  | .inr E => .inr E
def wd_wu (o : Unit ⊕ String) : mi_O := match o with
  | .inl _ => .inl none
  | .inr E => .inr E
theorem wd_bx {α : Type} {x : wd_S} {f : wd_S → Option α} {r : α} (h : wd_b x f = some r) : ∃ y, x = y ∧ f y = some r := ⟨x, rfl, h⟩
theorem wd_cx {α β : Type} {m : Option (α × wd_S)} {f : α → wd_S → Option β} {r : β} (h : wd_c m f = some r) : ∃ x S, m = some (x, S) ∧ f x S = some r := by
  cases m with
  | none => cases h
  | some q => exact ⟨q.1, q.2, rfl, h⟩
theorem wd_dx {β : Type} {m : Option wd_S} {f : wd_S → Option β} {r : β} (h : wd_d m f = some r) : ∃ S, m = some S ∧ f S = some r := by
  cases m with
  | none => cases h
  | some q => exact ⟨q, rfl, h⟩
theorem wd_ox {α β : Type} {o : α ⊕ String} {f : α → Option β} {g : String → Option β} {r : β} (h : wd_o o f g = some r) : (∃ x, o = .inl x ∧ f x = some r) ∨ (∃ E, o = .inr E ∧ g E = some r) := by
  cases o with
  | inl x => exact Or.inl ⟨x, rfl, h⟩
  | inr E => exact Or.inr ⟨E, rfl, h⟩
def wd_p {β : Type} (o : Option Value) (f : Int32 → Option β) : Option β := match o with
  | some (.int x) => f x
  | _ => none
theorem wd_px {β : Type} {o : Option Value} {f : Int32 → Option β} {r : β} (h : wd_p o f = some r) : ∃ x, o = some (.int x) ∧ f x = some r := by
  unfold wd_p at h
  split at h
  · next x => exact ⟨x, rfl, h⟩
  · cases h
section FnKit
variable {L : Nat} {xs : Nat → Int32} {d j pc pc' : Nat} {lv : mi_L} {st : List Value} {h : mi_H} {r : mi_O × mi_H} {l : List (Nat × Instr)} {S : wd_S}
theorem bk_p {i : Instr} {st' : List Value} (hl : l.all (tb_chk j) = true) (hi : sy_find pc l = some i) (hp : pc + mi_len i = pc') (hm : mi_pure i st = some st') (hg : go_r tb_P L xs d j pc' lv st' h r) : go_r tb_P L xs d j pc lv st h r := by
  subst hp
  exact go_s (fun _ => sy_step0 (bk_in hl hi).2 (bk_in hl hi).1 hm) hg
theorem bk_ct {ix x : Nat} (hl : l.all (tb_chk j) = true) (hi : sy_find pc l = some (.ldc ix)) (hp : pc + 2 = pc') (hc : mi_cs tb_P j ix = some (.retAddr x)) (hg : go_r tb_P L xs d j pc' lv (.retAddr x :: st) h r) : go_r tb_P L xs d j pc lv st h r :=
  bk_h hl hi hp (q := (.retAddr x :: st, h)) (by unfold mi_heap; simp only [hc]) hg
theorem bk_l0 (hl : l.all (tb_chk j) = true) (hi : sy_find pc l = some .arraylength) (hp : pc + 1 = pc') (hg : go_r tb_P L xs d j pc' lv (.int (Int32.ofNat L) :: st) h r) : go_r tb_P L xs d j pc lv (.ref 0 :: st) h r :=
  bk_h hl hi hp (q := (.int (Int32.ofNat L) :: st, h)) rfl hg
theorem bk_a0 {x : Int32} (hl : l.all (tb_chk j) = true) (hi : sy_find pc l = some .iaload) (hp : pc + 1 = pc') (hx : ¬(x < 0 ∨ L ≤ x.toNatClampNeg)) (hg : go_r tb_P L xs d j pc' lv (.int (xs x.toNatClampNeg) :: st) h r) : go_r tb_P L xs d j pc lv (.int x :: .ref 0 :: st) h r :=
  bk_h hl hi hp (q := (.int (xs x.toNatClampNeg) :: st, h)) (show (mi_ld_i4 L xs 0 x h).map _ = _ by
    unfold mi_ld_i4
    rw [if_pos rfl, if_neg hx]
    rfl) hg
theorem bk_kt {ix k n ix' t : Nat} {as rest : List Value} {v : Value} (hl : l.all (tb_chk j) = true) (hi : sy_find pc l = some (.invokevirtual ix)) (hp : pc + 3 = pc') (hs : mi_site tb_P j (.invokevirtual ix) = some (k, 6, n, ix')) (ha : mi_targs n st = some (t, as, rest)) (hw : Nat.ble (mi_wt rest) 8 = true) (hv : mi_pr tb_P k (.retAddr t :: as) = some v) (hg : go_r tb_P L xs d j pc' lv (v :: rest) h r) : go_r tb_P L xs d j pc lv st h r := by
  subst hp
  refine go_s (q := (pc + 3, lv, v :: rest, h)) (fun c => ?_) hg
  refine sy_step5 (bk_in hl hi).2 (bk_in hl hi).1 rfl ?_
  unfold mi_inv
  rw [hs]
  simp only []
  rw [if_neg (by decide), if_pos trivial, ha]
  simp only []
  rw [if_pos (Nat.le_of_ble_eq_true hw), hv]
/-- a call throws, and nothing here catches -/
theorem bk_kp {ix k n ix' a ci : Nat} {as rest : List Value} {E : String} {g : mi_H} (hl : l.all (tb_chk j) = true) (hi : sy_find pc l = some (.invokevirtual ix)) (hs : mi_site tb_P j (.invokevirtual ix) = some (k, 0, n, ix')) (ha : mi_cargs 0 n st = some (.ref a :: as, rest)) (hw : Nat.ble (mi_wt rest) 8 = true) (hq : pc + 3 = pc + 3) (ht : tp_t a = (0, ci)) (hc : mi_kc tb_P k = ci) (he : ev_r tb_P L xs d k (.ref a :: as) (wd_k S) (.inr E, g)) (hca : mi_ca tb_P j pc E = none) (hh : (mi_hh tb_P j).isEmpty = true) : go_r tb_P L xs d j pc lv st (wd_k S) (.inr E, g) := by
  refine go_ce he (fun c hcc => ?_)
  refine sy_step5 (bk_in hl hi).2 (bk_in hl hi).1 rfl ?_
  unfold mi_inv
  rw [hs]
  simp only []
  rw [if_neg (by decide), if_neg (by decide), ha]
  simp only []
  rw [if_pos ⟨Nat.le_of_ble_eq_true hw, fun _ => wd_rc ht hc⟩, hcc]
  simp only []
  rw [if_neg (by decide)]
  unfold mi_exc
  rw [hca]
  simp only []
  rw [if_pos hh]
/-- a call throws, and a row of the method's own catches -/
theorem bk_kh {ix k n ix' a ci : Nat} {as rest : List Value} {E : String} {g : mi_H} {lv2 : mi_L} (hl : l.all (tb_chk j) = true) (hi : sy_find pc l = some (.invokevirtual ix)) (hs : mi_site tb_P j (.invokevirtual ix) = some (k, 0, n, ix')) (ha : mi_cargs 0 n st = some (.ref a :: as, rest)) (hw : Nat.ble (mi_wt rest) 8 = true) (ht : tp_t a = (0, ci)) (hc : mi_kc tb_P k = ci) (he : ev_r tb_P L xs d k (.ref a :: as) (wd_k S) (.inr E, g)) (hx : mi_exc tb_P j pc lv E g = some (.inl (pc', lv2, [], g))) (hg : go_r tb_P L xs d j pc' lv2 [] g r) : go_r tb_P L xs d j pc lv st (wd_k S) r := by
  refine go_c he (q := (pc', _, [], g)) (fun c hcc => ?_) hg
  refine sy_step5 (bk_in hl hi).2 (bk_in hl hi).1 rfl ?_
  unfold mi_inv
  rw [hs]
  simp only []
  rw [if_neg (by decide), if_neg (by decide), ha]
  simp only []
  rw [if_pos ⟨Nat.le_of_ble_eq_true hw, fun _ => wd_rc ht hc⟩, hcc]
  simp only []
  rw [if_neg (by decide)]
  exact hx
theorem bk_kn {ix k n ix' a ci hp : Nat} {as rest : List Value} {E : String} {g : mi_H} {qf : Fin 4} {l' : List (Nat × Instr)} {lv' : mi_L} (hl : l.all (tb_chk j) = true) (hi : sy_find pc l = some (.invokevirtual ix)) (hs : mi_site tb_P j (.invokevirtual ix) = some (k, 0, n, ix')) (ha : mi_cargs 0 n st = some (.ref a :: as, rest)) (hw : Nat.ble (mi_wt rest) 8 = true) (ht : tp_t a = (0, ci)) (hc : mi_kc tb_P k = ci) (he : ev_r tb_P L xs d k (.ref a :: as) (wd_k S) (.inr E, g)) (hca : mi_ca tb_P j pc E = some hp) (hl' : l'.all (tb_chk j) = true) (hp' : hp + 1 = pc') (hi' : sy_find hp l' = some (.astore_n qf)) (hq : Nat.blt (qf : Nat) (mi_mx tb_P j) = true) (hv : mi_sub lv (qf : Nat) = lv') (hg : go_r tb_P L xs d j pc' lv' [] g r) : go_r tb_P L xs d j pc lv st (wd_k S) r := by
  subst hp' hv
  refine bk_kh hl hi hs ha hw ht hc he ?_ hg
  unfold mi_exc
  rw [hca]
  simp only []
  rw [(bk_in hl' hi').1]
  simp only []
  exact if_pos (Nat.blt_eq.mp hq)
theorem bk_kw {ix k n ix' a ci hp : Nat} {as rest : List Value} {E : String} {g : mi_H} {q : Nat} {l' : List (Nat × Instr)} {lv' : mi_L} (hl : l.all (tb_chk j) = true) (hi : sy_find pc l = some (.invokevirtual ix)) (hs : mi_site tb_P j (.invokevirtual ix) = some (k, 0, n, ix')) (ha : mi_cargs 0 n st = some (.ref a :: as, rest)) (hw : Nat.ble (mi_wt rest) 8 = true) (ht : tp_t a = (0, ci)) (hc : mi_kc tb_P k = ci) (he : ev_r tb_P L xs d k (.ref a :: as) (wd_k S) (.inr E, g)) (hca : mi_ca tb_P j pc E = some hp) (hl' : l'.all (tb_chk j) = true) (hp' : hp + 2 = pc') (hi' : sy_find hp l' = some (.astore q)) (hq : Nat.blt q (mi_mx tb_P j) = true) (hv : mi_sub lv q = lv') (hg : go_r tb_P L xs d j pc' lv' [] g r) : go_r tb_P L xs d j pc lv st (wd_k S) r := by
  subst hp' hv
  refine bk_kh hl hi hs ha hw ht hc he ?_ hg
  unfold mi_exc
  rw [hca]
  simp only []
  rw [(bk_in hl' hi').1]
  simp only []
  exact if_pos (Nat.blt_eq.mp hq)
end FnKit
/-! switches: no case -/
theorem sw_i (x : Int32) : Int32.ofInt x.toInt = x := Int32.ofInt_toInt x
theorem sw_t {pc t : Nat} {dflt lo hi : Int} {offs : Array Int} {x : Int32} {st : List Value} (hn : ∀ i : Int, lo ≤ i → i ≤ hi → ¬x = Int32.ofInt i) (ht : mi_tgt pc dflt = some t) : mi_jmp (.tableswitch dflt lo hi offs) pc (.int x :: st) = some (t, st) := by
  unfold mi_jmp
  simp only []
  have h0 : x.toInt < lo ∨ hi < x.toInt := by
    rcases Int.lt_or_le x.toInt lo with h1 | h1
    · exact Or.inl h1
    · rcases Int.lt_or_le hi x.toInt with h2 | h2
      · exact Or.inr h2
      · exact absurd (sw_i x).symm (hn _ h1 h2)
  rw [if_pos h0, ht]
  rfl
def sw_ne (x : Int32) : List (Int × Int) → Prop
  | [] => True
  | q :: r => ¬x = Int32.ofInt q.1 ∧ sw_ne x r
theorem sw_off {x : Int32} {d : Int} : ∀ {l : List (Int × Int)}, sw_ne x l → Op.lookupswitch.offset l d x.toInt = d := by
  intro l
  induction l with
  | nil => intro _; rfl
  | cons q r ih =>
    intro h
    obtain ⟨a, o⟩ := q
    rw [Op.lookupswitch.offset_cons]
    rw [if_neg (fun e => h.1 (by rw [e, sw_i]))]
    exact ih h.2
theorem sw_l {pc t : Nat} {dflt : Int} {ps : Array (Int × Int)} {x : Int32} {st : List Value} (hs : (ps.toList.zip (ps.toList.drop 1)).all (fun (a, next) => a.1 < next.1) = true) (hn : sw_ne x ps.toList) (ht : mi_tgt pc dflt = some t) : mi_jmp (.lookupswitch dflt ps) pc (.int x :: st) = some (t, st) := by
  unfold mi_jmp
  simp only []
  rw [if_pos hs, sw_off hn, ht]
  rfl
