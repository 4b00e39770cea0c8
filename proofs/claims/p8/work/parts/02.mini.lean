/-! THE SMALL MACHINE: the class's and the law's bytecode run over a small heap of our own (addresses from 0 on; 0 is the script); mi_ rows. Addresses of the machine proper come by mi_ad; .retAddr k stands for a thing that was there before (a text). -/
abbrev mi_E : Type := (FieldType × vp_A) ⊕ (Nat × List Value)
/-- how many cells there are, how many slots were made, the cells -/
abbrev mi_H : Type := Nat × Nat × (Nat → mi_E)
abbrev mi_L : Type := List (Nat × Value)
/-- returned, or threw a class -/
abbrev mi_O : Type := Option Value ⊕ String
def mi_ad (b : Nat → Nat) (B : Nat) : Nat → Nat
  | 0 => b 0
  | k + 1 => B + k
def mi_v (b : Nat → Nat) (B : Nat) : Value → Value
  | .ref a => .ref (mi_ad b B a)
  | .retAddr k => .ref (b (k + 1))
  | v => v
theorem mi_v_cat (b : Nat → Nat) (B : Nat) (v : Value) : (mi_v b B v).category = v.category := by cases v <;> rfl
theorem mi_cats (b : Nat → Nat) (B : Nat) (st : List Value) : ((st.map (mi_v b B)).map fun v => v.category).sum = (st.map fun v => v.category).sum := by
  rw [List.map_map]
  congr 1
  apply List.map_congr_left
  intro v _
  exact mi_v_cat b B v
def mi_lm (b : Nat → Nat) (B : Nat) (l : mi_L) : mi_L := l.map (fun q => (q.1, mi_v b B q.2))
def mi_lget (l : mi_L) (i : Nat) : Option Value := (l.find? (fun q => q.1 == i)).map (fun q => q.2)
def mi_st1 (l : mi_L) (i : Nat) (v : Value) : mi_L := (i, v) :: l.filter (fun q => !(q.1 == i) && !(q.1 + 1 == i && q.2.category == 2))
def mi_st2 (l : mi_L) (i : Nat) (v : Value) : mi_L := (i, v) :: l.filter (fun q => !(q.1 == i) && (!(q.1 == i + 1) && !(q.1 + 1 == i && q.2.category == 2)))
theorem mi_lget_mem {l : mi_L} {i : Nat} {v : Value} (h : mi_lget l i = some v) : (i, v) ∈ l := by
  unfold mi_lget at h
  cases hf : l.find? (fun q => q.1 == i) with
  | none => rw [hf] at h; cases h
  | some q =>
    rw [hf] at h
    have h1 : q.2 = v := Option.some.inj h
    have h2 := List.find?_some hf
    have h3 : q.1 = i := by simpa using h2
    have h4 := List.mem_of_find?_eq_some hf
    rw [← h1, ← h3]
    exact h4
theorem mi_lget_at {b : Nat → Nat} {B nL : Nat} {ls : Array Slot} {l : mi_L} {i : Nat} {v : Value} (hl : lv_has ls nL (mi_lm b B l)) (h : mi_lget l i = some v) : ls[i]? = some (.val (mi_v b B v)) :=
  hl.2.2 (i, mi_v b B v) (List.mem_map.mpr ⟨(i, v), mi_lget_mem h, rfl⟩)
theorem mi_lm_st1 (b : Nat → Nat) (B : Nat) (l : mi_L) (i : Nat) (v : Value) : mi_st1 (mi_lm b B l) i (mi_v b B v) = mi_lm b B (mi_st1 l i v) := by
  unfold mi_st1 mi_lm
  rw [List.map_cons, List.filter_map]
  congr 1
  congr 1
  apply List.filter_congr
  intro q _
  simp only [Function.comp, mi_v_cat]
theorem mi_lm_st2 (b : Nat → Nat) (B : Nat) (l : mi_L) (i : Nat) (v : Value) : mi_st2 (mi_lm b B l) i (mi_v b B v) = mi_lm b B (mi_st2 l i v) := by
  unfold mi_st2 mi_lm
  rw [List.map_cons, List.filter_map]
  congr 1
  congr 1
  apply List.filter_congr
  intro q _
  simp only [Function.comp, mi_v_cat]
/-- what a step that touches the stack alone makes of it -/
def mi_pure (i : Instr) (st : List Value) : Option (List Value) := match i, st with
  | .iconst n, r => some (.int (Int32.ofInt n) :: r)
  | .bipush n, r => some (.int (Int8.ofInt n).toInt32 :: r)
  | .sipush n, r => some (.int (Int16.ofInt n).toInt32 :: r)
  | .lconst n, r => some (.long (Int64.ofNat (n : Nat)) :: r)
  | .iadd, .int y :: .int x :: r => some (.int (x + y) :: r)
  | .isub, .int y :: .int x :: r => some (.int (x - y) :: r)
  | .imul, .int y :: .int x :: r => some (.int (x * y) :: r)
  | .iand, .int y :: .int x :: r => some (.int (x &&& y) :: r)
  | .ior, .int y :: .int x :: r => some (.int (x ||| y) :: r)
  | .ishl, .int y :: .int x :: r => some (.int (x <<< (y &&& 31)) :: r)
  | .ishr, .int y :: .int x :: r => some (.int (x >>> (y &&& 31)) :: r)
  | .iushr, .int y :: .int x :: r => some (.int (x.toUInt32 >>> (y.toUInt32 &&& Int32.toUInt32 31)).toInt32 :: r)
  | .idiv, .int y :: .int x :: r => if y = 0 then none else some (.int (x / y) :: r)
  | .irem, .int y :: .int x :: r => if y = 0 then none else some (.int (x - x / y * y) :: r)
  | .ineg, .int x :: r => some (.int (-x) :: r)
  | .ladd, .long y :: .long x :: r => some (.long (x + y) :: r)
  | .lsub, .long y :: .long x :: r => some (.long (x - y) :: r)
  | .lmul, .long y :: .long x :: r => some (.long (x * y) :: r)
  | .land, .long y :: .long x :: r => some (.long (x &&& y) :: r)
  | .lor, .long y :: .long x :: r => some (.long (x ||| y) :: r)
  | .lshl, .int y :: .long x :: r => some (.long (x <<< (y.toInt64 &&& 63)) :: r)
  | .lshr, .int y :: .long x :: r => some (.long (x >>> (y.toInt64 &&& 63)) :: r)
  | .i2l, .int x :: r => some (.long x.toInt64 :: r)
  | .l2i, .long x :: r => some (.int x.toInt32 :: r)
  | .lcmp, .long y :: .long x :: r => some (.int (lg_cmp x y) :: r)
  | .i2c, .int x :: r => some (.int (x.toUInt32 % 65536).toInt32 :: r)
  | .dup, v :: r => if v.category = 1 then some (v :: v :: r) else none
  | .pop, v :: r => if v.category = 1 then some r else none
  | .dup2, v :: w :: r => if v.category = 1 then (if w.category = 1 then some (v :: w :: v :: w :: r) else none) else none
  | _, _ => none
/-- how many bytes such an instruction has -/
def mi_len (i : Instr) : Nat := match i with
  | .bipush _ | .iload _ | .lload _ | .aload _ | .istore _ | .lstore _ | .astore _ | .ldc _ | .newarray _ => 2
  | .sipush _ | .iinc _ _ | .goto _ | .if_icmp _ _ | .ifCond _ _ | .getfield _ | .putfield _ | .new _ | .invokevirtual _ | .invokespecial _ | .invokestatic _ | .ldc_w _ | .ldc2_w _ => 3
  | _ => 1
section MiPure
variable {p : Program} {l : Launch} {e : Env} {R : Room} {s : State} {m : MethodId} {args : Array Value} {below : List Frame} {meth : Method} {c : Code} {H : Heap} {locs : List Loc} {cells slots : Nat} {Q : State → Prop}
variable {cc : ByteArray} {pc : Nat} {ls : Array Slot} {b : Nat → Nat} {B : Nat}
set_option maxHeartbeats 4000000 in
theorem mi_pure_ok (hx : p.tables.exec = Jvm.exec) (hb : c.code = cc) {i : Instr} {st st' : List Value} (h : mi_pure i st = some st') (hd : decode cc pc = .ok (i, mi_len i))
    (k : W p l e R s m args below meth c H locs cells slots Q (F0 m (pc + mi_len i) ls (st'.map (mi_v b B)))) : W p l e R s m args below meth c H locs cells slots Q (F0 m pc ls (st.map (mi_v b B))) := by
  unfold mi_pure at h
  split at h
  · cases h; exact lv_iconst hx hb hd rfl k
  · cases h; exact lv_bipush hx hb hd rfl k
  · cases h; exact lv_sipush hx hb hd rfl k
  · cases h; exact lv_lconst hx hb hd rfl k
  · cases h; exact lv_iadd hx hb hd k
  · cases h; exact lv_isub hx hb hd k
  · cases h; exact lv_imul hx hb hd k
  · cases h; exact lv_iand hx hb hd k
  · cases h; exact lv_ior hx hb hd k
  · cases h; exact lv_ishl hx hb hd k
  · cases h; exact lv_ishr hx hb hd k
  · cases h; exact lv_iushr hx hb hd rfl k
  · split at h
    · cases h
    · next hne => cases h; exact lv_idiv hx hb hd hne k
  · split at h
    · cases h
    · next hne => cases h; exact lv_irem hx hb hd hne k
  · cases h; exact lv_ineg hx hb hd k
  · cases h; exact lv_ladd hx hb hd k
  · cases h; exact lv_lsub hx hb hd k
  · cases h; exact lv_lmul hx hb hd k
  · cases h; exact lv_land hx hb hd k
  · cases h; exact lv_lor hx hb hd k
  · cases h; exact lv_lshl hx hb hd rfl k
  · cases h; exact lv_lshr hx hb hd rfl k
  · cases h; exact lv_i2l hx hb hd rfl k
  · cases h; exact lv_l2i hx hb hd rfl k
  · cases h; exact W.lcmp hx hb hd k
  · cases h; exact lv_i2c hx hb hd rfl k
  · split at h
    · next hc => cases h; exact lv_dup hx hb hd ((mi_v_cat b B _).trans hc) k
    · cases h
  · split at h
    · next hc => cases h; exact lv_pop hx hb hd ((mi_v_cat b B _).trans hc) k
    · cases h
  · split at h
    · next hc =>
      split at h
      · next hc2 => cases h; exact lv_dup2_11 hx hb hd ((mi_v_cat b B _).trans hc) ((mi_v_cat b B _).trans hc2) k
      · cases h
    · cases h
  · cases h
end MiPure
