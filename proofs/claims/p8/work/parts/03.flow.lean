/-! Locals and jumps of the small machine. -/
/-- a load: 0 an int, 1 a long, 2 a reference -/
def mi_ld (k : Nat) (lv : mi_L) (i : Nat) (st : List Value) : Option (List Value) := match mi_lget lv i with
  | some (.int x) => if k = 0 then some (.int x :: st) else none
  | some (.long x) => if k = 1 then some (.long x :: st) else none
  | some (.ref a) => if k = 2 then some (.ref a :: st) else none
  | some .null => if k = 2 then some (.null :: st) else none
  | some (.retAddr t) => if k = 2 then some (.retAddr t :: st) else none
  | _ => none
def mi_sto (nL k : Nat) (lv : mi_L) (i : Nat) (st : List Value) : Option (mi_L × List Value) := match st with
  | .int x :: r => if k = 0 ∧ i < nL then some (mi_st1 lv i (.int x), r) else none
  | .long x :: r => if k = 1 ∧ i + 1 < nL then some (mi_st2 lv i (.long x), r) else none
  | .ref a :: r => if k = 2 ∧ i < nL then some (mi_st1 lv i (.ref a), r) else none
  | .null :: r => if k = 2 ∧ i < nL then some (mi_st1 lv i .null, r) else none
  | .retAddr t :: r => if k = 2 ∧ i < nL then some (mi_st1 lv i (.retAddr t), r) else none
  | _ => none
def mi_inc (nL : Nat) (lv : mi_L) (i : Nat) (n : Int) : Option mi_L := match mi_lget lv i with
  | some (.int x) => if i < nL then some (mi_st1 lv i (.int (x + Int32.ofInt n))) else none
  | _ => none
def mi_loc (nL : Nat) (i : Instr) (lv : mi_L) (st : List Value) : Option (mi_L × List Value) := match i with
  | .iload_n k => (mi_ld 0 lv (k : Nat) st).map (fun r => (lv, r))
  | .iload k => (mi_ld 0 lv k st).map (fun r => (lv, r))
  | .lload_n k => (mi_ld 1 lv (k : Nat) st).map (fun r => (lv, r))
  | .lload k => (mi_ld 1 lv k st).map (fun r => (lv, r))
  | .aload_n k => (mi_ld 2 lv (k : Nat) st).map (fun r => (lv, r))
  | .aload k => (mi_ld 2 lv k st).map (fun r => (lv, r))
  | .istore_n k => mi_sto nL 0 lv (k : Nat) st
  | .istore k => mi_sto nL 0 lv k st
  | .lstore_n k => mi_sto nL 1 lv (k : Nat) st
  | .lstore k => mi_sto nL 1 lv k st
  | .astore_n k => mi_sto nL 2 lv (k : Nat) st
  | .astore k => mi_sto nL 2 lv k st
  | .iinc k n => (mi_inc nL lv k n).map (fun r => (r, st))
  | _ => none
theorem mi_ld_i {lv : mi_L} {i : Nat} {st st' : List Value} (h : mi_ld 0 lv i st = some st') : ∃ x, mi_lget lv i = some (.int x) ∧ st' = .int x :: st := by
  unfold mi_ld at h
  split at h
  · next x hx => exact ⟨x, hx, by simpa using h.symm⟩
  all_goals simp at h
theorem mi_ld_l {lv : mi_L} {i : Nat} {st st' : List Value} (h : mi_ld 1 lv i st = some st') : ∃ x, mi_lget lv i = some (.long x) ∧ st' = .long x :: st := by
  unfold mi_ld at h
  split at h
  · simp at h
  · next x hx => exact ⟨x, hx, by simpa using h.symm⟩
  all_goals simp at h
theorem mi_ld_a {lv : mi_L} {i : Nat} {st st' : List Value} (h : mi_ld 2 lv i st = some st') : (∃ a, mi_lget lv i = some (.ref a) ∧ st' = .ref a :: st) ∨ (mi_lget lv i = some .null ∧ st' = .null :: st) ∨ (∃ t, mi_lget lv i = some (.retAddr t) ∧ st' = .retAddr t :: st) := by
  unfold mi_ld at h
  split at h
  · simp at h
  · simp at h
  · next a ha => exact Or.inl ⟨a, ha, by simpa using h.symm⟩
  · next ha => exact Or.inr (Or.inl ⟨ha, by simpa using h.symm⟩)
  · next t ha => exact Or.inr (Or.inr ⟨t, ha, by simpa using h.symm⟩)
  · simp at h
theorem mi_sto_i {nL : Nat} {lv : mi_L} {i : Nat} {st : List Value} {q : mi_L × List Value} (h : mi_sto nL 0 lv i st = some q) : ∃ x r, st = .int x :: r ∧ i < nL ∧ q = (mi_st1 lv i (.int x), r) := by
  unfold mi_sto at h
  split at h
  · next x r => split at h
                · next hc => exact ⟨x, r, rfl, hc.2, (Option.some.inj h).symm⟩
                · cases h
  all_goals simp at h
theorem mi_sto_l {nL : Nat} {lv : mi_L} {i : Nat} {st : List Value} {q : mi_L × List Value} (h : mi_sto nL 1 lv i st = some q) : ∃ x r, st = .long x :: r ∧ i + 1 < nL ∧ q = (mi_st2 lv i (.long x), r) := by
  unfold mi_sto at h
  split at h
  · simp at h
  · next x r => split at h
                · next hc => exact ⟨x, r, rfl, hc.2, (Option.some.inj h).symm⟩
                · cases h
  all_goals simp at h
theorem mi_sto_a {nL : Nat} {lv : mi_L} {i : Nat} {st : List Value} {q : mi_L × List Value} (h : mi_sto nL 2 lv i st = some q) : (∃ a r, st = .ref a :: r ∧ i < nL ∧ q = (mi_st1 lv i (.ref a), r)) ∨ (∃ r, st = .null :: r ∧ i < nL ∧ q = (mi_st1 lv i .null, r)) ∨ (∃ t r, st = .retAddr t :: r ∧ i < nL ∧ q = (mi_st1 lv i (.retAddr t), r)) := by
  unfold mi_sto at h
  split at h
  · simp at h
  · simp at h
  · next x r => split at h
                · next hc => exact Or.inl ⟨x, r, rfl, hc.2, (Option.some.inj h).symm⟩
                · cases h
  · next r => split at h
              · next hc => exact Or.inr (Or.inl ⟨r, rfl, hc.2, (Option.some.inj h).symm⟩)
              · cases h
  · next t r => split at h
                · next hc => exact Or.inr (Or.inr ⟨t, r, rfl, hc.2, (Option.some.inj h).symm⟩)
                · cases h
  · simp at h
section MiLoc
variable {p : Program} {l : Launch} {e : Env} {R : Room} {s : State} {m : MethodId} {args : Array Value} {below : List Frame} {meth : Method} {c : Code} {H : Heap} {locs : List Loc} {cells slots : Nat} {Q : State → Prop}
variable {cc : ByteArray} {pc nL : Nat} {ls : Array Slot} {b : Nat → Nat} {B : Nat}
set_option maxHeartbeats 4000000 in
theorem mi_loc_ok (hx : p.tables.exec = Jvm.exec) (hb : c.code = cc) {i : Instr} {lv lv' : mi_L} {st st' : List Value} (h : mi_loc nL i lv st = some (lv', st')) (hd : decode cc pc = .ok (i, mi_len i)) (hl : lv_has ls nL (mi_lm b B lv))
    (k : ∀ ls' : Array Slot, lv_has ls' nL (mi_lm b B lv') → W p l e R s m args below meth c H locs cells slots Q (F0 m (pc + mi_len i) ls' (st'.map (mi_v b B)))) : W p l e R s m args below meth c H locs cells slots Q (F0 m pc ls (st.map (mi_v b B))) := by
  unfold mi_loc at h
  split at h
  · obtain ⟨r, hr, e1⟩ := Option.map_eq_some_iff.mp h
    cases e1
    obtain ⟨x, hx1, rfl⟩ := mi_ld_i hr
    exact lv_iload_n hx hb hd rfl (mi_lget_at hl hx1) (k ls hl)
  · obtain ⟨r, hr, e1⟩ := Option.map_eq_some_iff.mp h
    cases e1
    obtain ⟨x, hx1, rfl⟩ := mi_ld_i hr
    exact lv_iload hx hb hd (mi_lget_at hl hx1) (k ls hl)
  · obtain ⟨r, hr, e1⟩ := Option.map_eq_some_iff.mp h
    cases e1
    obtain ⟨x, hx1, rfl⟩ := mi_ld_l hr
    exact lv_lload_n hx hb hd rfl (mi_lget_at hl hx1) (k ls hl)
  · obtain ⟨r, hr, e1⟩ := Option.map_eq_some_iff.mp h
    cases e1
    obtain ⟨x, hx1, rfl⟩ := mi_ld_l hr
    exact lv_lload hx hb hd (mi_lget_at hl hx1) (k ls hl)
  · obtain ⟨r, hr, e1⟩ := Option.map_eq_some_iff.mp h
    cases e1
    rcases mi_ld_a hr with ⟨x, hx1, rfl⟩ | ⟨hx1, rfl⟩ | ⟨x, hx1, rfl⟩
    · exact lv_aload_n hx hb hd rfl (mi_lget_at hl hx1) (k ls hl)
    · exact lv_aload_nN hx hb hd rfl (mi_lget_at hl hx1) (k ls hl)
    · exact lv_aload_n hx hb hd rfl (mi_lget_at hl hx1) (k ls hl)
  · obtain ⟨r, hr, e1⟩ := Option.map_eq_some_iff.mp h
    cases e1
    rcases mi_ld_a hr with ⟨x, hx1, rfl⟩ | ⟨hx1, rfl⟩ | ⟨x, hx1, rfl⟩
    · exact lv_aload hx hb hd (mi_lget_at hl hx1) (k ls hl)
    · exact lv_aloadN hx hb hd (mi_lget_at hl hx1) (k ls hl)
    · exact lv_aload hx hb hd (mi_lget_at hl hx1) (k ls hl)
  · obtain ⟨x, r, rfl, hn, e1⟩ := mi_sto_i h
    cases e1
    exact lv_istore_n hx hb hd rfl hl hn (mi_lm_st1 b B lv _ (.int x)) k
  · obtain ⟨x, r, rfl, hn, e1⟩ := mi_sto_i h
    cases e1
    exact lv_istore hx hb hd hl hn (mi_lm_st1 b B lv _ (.int x)) k
  · obtain ⟨x, r, rfl, hn, e1⟩ := mi_sto_l h
    cases e1
    exact lv_lstore_n hx hb hd rfl hl hn (mi_lm_st2 b B lv _ (.long x)) k
  · obtain ⟨x, r, rfl, hn, e1⟩ := mi_sto_l h
    cases e1
    exact lv_lstore hx hb hd hl hn (mi_lm_st2 b B lv _ (.long x)) k
  · rcases mi_sto_a h with ⟨x, r, rfl, hn, e1⟩ | ⟨r, rfl, hn, e1⟩ | ⟨x, r, rfl, hn, e1⟩
    · cases e1
      exact lv_astore_n hx hb hd rfl hl hn (mi_lm_st1 b B lv _ (.ref x)) k
    · cases e1
      exact lv_astore_nN hx hb hd rfl hl hn (mi_lm_st1 b B lv _ .null) k
    · cases e1
      exact lv_astore_n hx hb hd rfl hl hn (mi_lm_st1 b B lv _ (.retAddr x)) k
  · rcases mi_sto_a h with ⟨x, r, rfl, hn, e1⟩ | ⟨r, rfl, hn, e1⟩ | ⟨x, r, rfl, hn, e1⟩
    · cases e1
      exact lv_astore hx hb hd hl hn (mi_lm_st1 b B lv _ (.ref x)) k
    · cases e1
      exact lv_astoreN hx hb hd hl hn (mi_lm_st1 b B lv _ .null) k
    · cases e1
      exact lv_astore hx hb hd hl hn (mi_lm_st1 b B lv _ (.retAddr x)) k
  · obtain ⟨r, hr, e1⟩ := Option.map_eq_some_iff.mp h
    cases e1
    unfold mi_inc at hr
    split at hr
    · next x hx1 =>
      split at hr
      · next hn =>
        cases hr
        have hm : (_, Value.int x) ∈ mi_lm b B lv := List.mem_map.mpr ⟨(_, .int x), mi_lget_mem hx1, rfl⟩
        obtain ⟨k0, hk0⟩ := List.getElem?_of_mem hm
        exact lv_iinc hx hb hd hl hk0 rfl hn (mi_lm_st1 b B lv _ (.int _)) k
      · cases hr
    · cases hr
  · cases h
end MiLoc
def mi_tgt (pc : Nat) (off : Int) : Option Nat := if 0 ≤ (pc : Int) + off then some ((pc : Int) + off).toNat else none
theorem mi_tgt_ok {pc t : Nat} {off : Int} (h : mi_tgt pc off = some t) : (pc : Int) + off = (t : Int) := by
  unfold mi_tgt at h
  split at h
  · next h0 => cases h; exact (Int.toNat_of_nonneg h0).symm
  · cases h
def mi_cmp (k : ClassFile.Cond) (x y : Int32) : Bool := match k with
  | .eq => decide (x = y)
  | .ne => !decide (x = y)
  | .lt => decide (x < y)
  | .ge => decide (y ≤ x)
  | .gt => decide (y < x)
  | .le => decide (x ≤ y)
def mi_sw (i : Instr) : Bool := match i with
  | .tableswitch _ _ _ _ => true
  | .lookupswitch _ _ => true
  | _ => false
/-- what the code says at a place -/
def mi_dec (cc : ByteArray) (pc : Nat) : Option Instr := match decode cc pc with
  | .ok (i, n) => if n = mi_len i ∨ mi_sw i = true then some i else none
  | _ => none
theorem mi_dec_ok {cc : ByteArray} {pc : Nat} {i : Instr} (h : mi_dec cc pc = some i) : (mi_sw i = false → decode cc pc = .ok (i, mi_len i)) ∧ ∃ n, decode cc pc = .ok (i, n) := by
  unfold mi_dec at h
  split at h
  · next j n hd =>
    split at h
    · next hc =>
      cases h
      refine ⟨fun h0 => ?_, n, hd⟩
      rcases hc with hc | hc
      · rw [← hc]; exact hd
      · rw [h0] at hc; cases hc
    · cases h
  · cases h
def mi_jmp (i : Instr) (pc : Nat) (st : List Value) : Option (Nat × List Value) := match i, st with
  | .goto off, r => (mi_tgt pc off).map (fun t => (t, r))
  | .if_icmp k off, .int y :: .int x :: r => (mi_tgt pc off).map (fun t => (if mi_cmp k x y = true then t else pc + 3, r))
  | .ifCond k off, .int x :: r => (mi_tgt pc off).map (fun t => (if mi_cmp k x 0 = true then t else pc + 3, r))
  | .tableswitch dflt lo hi offs, .int x :: r =>
    if x.toInt < lo ∨ hi < x.toInt then (mi_tgt pc dflt).map (fun t => (t, r))
    else match offs[(x.toInt - lo).toNat]? with
      | some off => (mi_tgt pc off).map (fun t => (t, r))
      | none => none
  | .lookupswitch dflt ps, .int x :: r =>
    if (ps.toList.zip (ps.toList.drop 1)).all (fun (a, next) => a.1 < next.1) = true then (mi_tgt pc (Op.lookupswitch.offset ps.toList dflt x.toInt)).map (fun t => (t, r)) else none
  | _, _ => none
section MiJmp
variable {p : Program} {l : Launch} {e : Env} {R : Room} {s : State} {m : MethodId} {args : Array Value} {below : List Frame} {meth : Method} {c : Code} {H : Heap} {locs : List Loc} {cells slots : Nat} {Q : State → Prop}
variable {cc : ByteArray} {pc nL : Nat} {ls : Array Slot} {b : Nat → Nat} {B : Nat}
set_option maxHeartbeats 4000000 in
theorem mi_jmp_ok (hx : p.tables.exec = Jvm.exec) (hb : c.code = cc) {i : Instr} {pc' : Nat} {st st' : List Value} (h : mi_jmp i pc st = some (pc', st')) (hd : mi_dec cc pc = some i)
    (k : W p l e R s m args below meth c H locs cells slots Q (F0 m pc' ls (st'.map (mi_v b B)))) : W p l e R s m args below meth c H locs cells slots Q (F0 m pc ls (st.map (mi_v b B))) := by
  obtain ⟨hd1, n, hd2⟩ := mi_dec_ok hd
  unfold mi_jmp at h
  split at h
  · obtain ⟨t, ht, e1⟩ := Option.map_eq_some_iff.mp h
    cases e1
    exact lv_goto hx hb (hd1 rfl) (mi_tgt_ok ht) k
  · next kc off y x r =>
    obtain ⟨t, ht, e1⟩ := Option.map_eq_some_iff.mp h
    cases e1
    have ht := mi_tgt_ok ht
    have hd3 := hd1 rfl
    cases kc with
    | eq => exact lv_icmp_eq hx hb hd3 ht (fun q => by rw [if_pos (by simp [mi_cmp, q])] at k; exact k) (fun q => by rw [if_neg (by simp [mi_cmp, q])] at k; exact k)
    | ne => exact lv_icmp_ne hx hb hd3 ht (fun q => by rw [if_pos (by simp [mi_cmp, q])] at k; exact k) (fun q => by rw [if_neg (by simp [mi_cmp, q])] at k; exact k)
    | lt => exact lv_icmp_lt hx hb hd3 ht (fun q => by rw [if_pos (by simp [mi_cmp, q])] at k; exact k) (fun q => by rw [if_neg (by simp only [mi_cmp, decide_eq_true_eq]; exact q)] at k; exact k)
    | ge => exact lv_icmp_ge hx hb hd3 ht (fun q => by rw [if_pos (by simp [mi_cmp, q])] at k; exact k) (fun q => by rw [if_neg (by simp only [mi_cmp, decide_eq_true_eq]; exact q)] at k; exact k)
    | gt => exact lv_icmp_gt hx hb hd3 ht (fun q => by rw [if_pos (by simp [mi_cmp, q])] at k; exact k) (fun q => by rw [if_neg (by simp only [mi_cmp, decide_eq_true_eq]; exact q)] at k; exact k)
    | le => exact lv_icmp_le hx hb hd3 ht (fun q => by rw [if_pos (by simp [mi_cmp, q])] at k; exact k) (fun q => by rw [if_neg (by simp only [mi_cmp, decide_eq_true_eq]; exact q)] at k; exact k)
  · next kc off x r =>
    obtain ⟨t, ht, e1⟩ := Option.map_eq_some_iff.mp h
    cases e1
    have ht := mi_tgt_ok ht
    have hd3 := hd1 rfl
    cases kc with
    | eq => exact lv_if_eq hx hb hd3 ht (fun q => by rw [if_pos (by simp [mi_cmp, q])] at k; exact k) (fun q => by rw [if_neg (by simp [mi_cmp, q])] at k; exact k)
    | ne => exact lv_if_ne hx hb hd3 ht (fun q => by rw [if_pos (by simp [mi_cmp, q])] at k; exact k) (fun q => by rw [if_neg (by simp [mi_cmp, q])] at k; exact k)
    | lt => exact lv_if_lt hx hb hd3 ht (fun q => by rw [if_pos (by simp [mi_cmp, q])] at k; exact k) (fun q => by rw [if_neg (by simp only [mi_cmp, decide_eq_true_eq]; exact q)] at k; exact k)
    | ge => exact lv_if_ge hx hb hd3 ht (fun q => by rw [if_pos (by simp [mi_cmp, q])] at k; exact k) (fun q => by rw [if_neg (by simp only [mi_cmp, decide_eq_true_eq]; exact q)] at k; exact k)
    | gt => exact lv_if_gt hx hb hd3 ht (fun q => by rw [if_pos (by simp [mi_cmp, q])] at k; exact k) (fun q => by rw [if_neg (by simp only [mi_cmp, decide_eq_true_eq]; exact q)] at k; exact k)
    | le => exact lv_if_le hx hb hd3 ht (fun q => by rw [if_pos (by simp [mi_cmp, q])] at k; exact k) (fun q => by rw [if_neg (by simp only [mi_cmp, decide_eq_true_eq]; exact q)] at k; exact k)
  · split at h
    · next hc =>
      obtain ⟨t, ht, e1⟩ := Option.map_eq_some_iff.mp h
      cases e1
      exact lv_tableOut hx hb hd2 hc (mi_tgt_ok ht) k
    · next hc =>
      split at h
      · next off ho =>
        obtain ⟨t, ht, e1⟩ := Option.map_eq_some_iff.mp h
        cases e1
        exact lv_tableIn hx hb hd2 (fun q => hc (Or.inl q)) (fun q => hc (Or.inr q)) ho (mi_tgt_ok ht) k
      · cases h
  · split at h
    · next hc =>
      obtain ⟨t, ht, e1⟩ := Option.map_eq_some_iff.mp h
      cases e1
      exact lv_lookup hx hb hd2 hc rfl (mi_tgt_ok ht) k
    · cases h
  · cases h
end MiJmp
