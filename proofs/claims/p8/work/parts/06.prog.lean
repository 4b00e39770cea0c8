/-! The small machine's program, and its steps in the heap. -/
/-- of a method: name, code, how many locals, answer, handlers -/
abbrev mi_M : Type := MethodName × ByteArray × Nat × Option FieldType × List (Nat × Nat × Nat × Nat)
/-- methods; instructions; fields, new, constants, calls (method, kind, arguments), throws, catches by their places; classes: how many fields, of what types; a method's class; what members of texts answer -/
abbrev mi_P : Type := (Nat → mi_M) × (Nat → Nat → Option Instr) × (Nat → Nat → Option (Nat × Nat × Bool)) × (Nat → Nat → Option Nat) × (Nat → Nat → Option Value) × (Nat → Nat → Option (Nat × Nat × Nat)) × (Nat → Nat → Option String) × (Nat → Nat → String → Option Nat) × (Nat → Nat) × (Nat → Nat → FieldType) × (Nat → Nat) × (Nat → List Value → Option Value)
def mi_nm (P : mi_P) (j : Nat) : MethodName := (P.1 j).1
def mi_cd (P : mi_P) (j : Nat) : ByteArray := (P.1 j).2.1
def mi_mx (P : mi_P) (j : Nat) : Nat := (P.1 j).2.2.1
def mi_rt (P : mi_P) (j : Nat) : Option FieldType := (P.1 j).2.2.2.1
def mi_hh (P : mi_P) (j : Nat) : List (Nat × Nat × Nat × Nat) := (P.1 j).2.2.2.2
def mi_is (P : mi_P) : Nat → Nat → Option Instr := P.2.1
def mi_fl (P : mi_P) : Nat → Nat → Option (Nat × Nat × Bool) := P.2.2.1
def mi_nw (P : mi_P) : Nat → Nat → Option Nat := P.2.2.2.1
def mi_cs (P : mi_P) : Nat → Nat → Option Value := P.2.2.2.2.1
def mi_iv (P : mi_P) : Nat → Nat → Option (Nat × Nat × Nat) := P.2.2.2.2.2.1
def mi_th (P : mi_P) : Nat → Nat → Option String := P.2.2.2.2.2.2.1
def mi_ca (P : mi_P) : Nat → Nat → String → Option Nat := P.2.2.2.2.2.2.2.1
def mi_nf (P : mi_P) : Nat → Nat := P.2.2.2.2.2.2.2.2.1
def mi_ft (P : mi_P) : Nat → Nat → FieldType := P.2.2.2.2.2.2.2.2.2.1
def mi_kc (P : mi_P) : Nat → Nat := P.2.2.2.2.2.2.2.2.2.2.1
def mi_pr (P : mi_P) : Nat → List Value → Option Value := P.2.2.2.2.2.2.2.2.2.2.2
def mi_get_f (P : mi_P) (j ix a : Nat) (h : mi_H) : Option Value := match mi_get h a, mi_fl P j ix with
  | some (.inr (ci, fs)), some (cj, k, _) => if a ≠ 0 ∧ ci = cj then fs[k]? else none
  | _, _ => none
def mi_put_f (P : mi_P) (j ix a : Nat) (v : Value) (h : mi_H) : Option mi_H := match mi_get h a, mi_fl P j ix with
  | some (.inr (ci, fs)), some (cj, k, w) => if w = true ∧ a ≠ 0 ∧ ci = cj ∧ k < fs.length ∧ mi_fit (mi_ft P ci k) v = true then some (mi_set h a (.inr (ci, fs.set k v))) else none
  | _, _ => none
def mi_ld_i4 (L : Nat) (xs : Nat → Int32) (a : Nat) (x : Int32) (h : mi_H) : Option Value :=
  if a = 0 then (if x < 0 ∨ L ≤ x.toNatClampNeg then none else some (.int (xs x.toNatClampNeg))) else match mi_get h a with
  | some (.inl (.int, n, .inl f)) => if x < 0 ∨ n ≤ x.toNatClampNeg then none else some (.int (f x.toNatClampNeg))
  | _ => none
def mi_ld_i8 (a : Nat) (x : Int32) (h : mi_H) : Option Value := match mi_get h a with
  | some (.inl (.long, n, .inr (.inl f))) => if a = 0 ∨ x < 0 ∨ n ≤ x.toNatClampNeg then none else some (.long (f x.toNatClampNeg))
  | _ => none
def mi_ld_i1 (a : Nat) (x : Int32) (h : mi_H) : Option Value := match mi_get h a with
  | some (.inl (.boolean, n, .inl f)) => if a = 0 ∨ x < 0 ∨ n ≤ x.toNatClampNeg then none else some (.int (f x.toNatClampNeg))
  | _ => none
def mi_as_i4 (a : Nat) (x v : Int32) (h : mi_H) : Option mi_H := match mi_get h a with
  | some (.inl (.int, n, .inl f)) => if a = 0 ∨ x < 0 ∨ n ≤ x.toNatClampNeg then none else some (mi_set h a (.inl (.int, n, .inl (upd f x.toNatClampNeg v))))
  | _ => none
def mi_as_i8 (a : Nat) (x : Int32) (v : Int64) (h : mi_H) : Option mi_H := match mi_get h a with
  | some (.inl (.long, n, .inr (.inl f))) => if a = 0 ∨ x < 0 ∨ n ≤ x.toNatClampNeg then none else some (mi_set h a (.inl (.long, n, .inr (.inl (vp_updL f x.toNatClampNeg v)))))
  | _ => none
def mi_as_i1 (a : Nat) (x v : Int32) (h : mi_H) : Option mi_H := match mi_get h a with
  | some (.inl (.boolean, n, .inl f)) => if a = 0 ∨ x < 0 ∨ n ≤ x.toNatClampNeg then none else if mi_fit .boolean (.int v) = true then some (mi_set h a (.inl (.boolean, n, .inl (upd f x.toNatClampNeg v)))) else none
  | _ => none
def mi_alen (L a : Nat) (h : mi_H) : Option Value := if a = 0 then some (.int (Int32.ofNat L)) else match mi_get h a with
  | some (.inl (.int, x)) => some (.int (Int32.ofNat x.1))
  | some (.inl (.long, x)) => some (.int (Int32.ofNat x.1))
  | some (.inl (.boolean, x)) => some (.int (Int32.ofNat x.1))
  | _ => none
def mi_heap (P : mi_P) (L : Nat) (xs : Nat → Int32) (j : Nat) (i : Instr) (st : List Value) (h : mi_H) : Option (List Value × mi_H) := match i, st with
  | .getfield ix, .ref a :: r => (mi_get_f P j ix a h).map (fun v => (v :: r, h))
  | .putfield ix, v :: .ref a :: r => (mi_put_f P j ix a v h).map (fun g => (r, g))
  | .iaload, .int x :: .ref a :: r => (mi_ld_i4 L xs a x h).map (fun v => (v :: r, h))
  | .laload, .int x :: .ref a :: r => (mi_ld_i8 a x h).map (fun v => (v :: r, h))
  | .baload, .int x :: .ref a :: r => (mi_ld_i1 a x h).map (fun v => (v :: r, h))
  | .iastore, .int v :: .int x :: .ref a :: r => (mi_as_i4 a x v h).map (fun g => (r, g))
  | .lastore, .long v :: .int x :: .ref a :: r => (mi_as_i8 a x v h).map (fun g => (r, g))
  | .bastore, .int v :: .int x :: .ref a :: r => (mi_as_i1 a x v h).map (fun g => (r, g))
  | .arraylength, .ref a :: r => (mi_alen L a h).map (fun v => (v :: r, h))
  | .newarray t, .int n :: r => if n < 0 ∨ 536870912 < n.toNatClampNeg * 8 then none else (mi_zero t n.toNatClampNeg).map (fun x => (.ref h.1 :: r, mi_push h n.toNatClampNeg (.inl x)))
  | .new ix, r => (mi_nw P j ix).map (fun ci => (.ref h.1 :: r, mi_push h (mi_nf P ci) (.inr (ci, mi_dfs (mi_ft P) ci (mi_nf P ci)))))
  | .ldc ix, r => match mi_cs P j ix with
    | some (.int x) => some (.int x :: r, h)
    | some (.retAddr t) => some (.retAddr t :: r, h)
    | _ => none
  | .ldc_w ix, r => match mi_cs P j ix with
    | some (.int x) => some (.int x :: r, h)
    | _ => none
  | .ldc2_w ix, r => match mi_cs P j ix with
    | some (.long x) => some (.long x :: r, h)
    | _ => none
  | _, _ => none
/-- the places of a method's class file, by words of GT -/
def mi_plc (GT : List Cond) (cl : List vw_C) (P : mi_P) (j : Nat) : Prop :=
  mi_fld GT cl (mi_nm P j).cls (decide ((mi_nm P j).name = "<init>")) (mi_fl P j) ∧
  (∀ ix ci, mi_nw P j ix = some ci → ∃ (C : String) (T : u_T), cl[ci]? = some (C, T, mi_nf P ci) ∧ Cond.classLink (mi_nm P j).cls ix C ∈ GT) ∧
  (∀ ix x, mi_cs P j ix = some (.int x) → Cond.constant (mi_nm P j).cls ix x ∈ GT) ∧
  (∀ ix x, mi_cs P j ix = some (.long x) → Cond.constantLong (mi_nm P j).cls ix x ∈ GT)
section MiStep
variable {p : Program} {l : Launch} {e : Env} {R : Room} {s : State} {m : MethodId} {args : Array Value} {below : List Frame} {meth : Method} {c : Code} {H : Heap} {locs : List Loc} {cells slots : Nat} {Q : State → Prop}
variable {cc : ByteArray} {pc : Nat} {ls : Array Slot} {b : Nat → Nat} {B : Nat} {D : va_G} {cl : List vw_C} {tA : FieldType → ClassId} {GT : List Cond} {P : mi_P} {j L n0 s0 : Nat} {xs : Nat → Int32} {h h' : mi_H}
set_option maxHeartbeats 4000000 in
theorem mi_heap_ok (hx : p.tables.exec = Jvm.exec) (hb : c.code = cc) (hts : ∀ w ∈ GT, w.before args s = true) (har : Cond.arrayClass .int ∈ GT ∧ Cond.arrayClass .long ∈ GT ∧ Cond.arrayClass .boolean ∈ GT) (hcl : mi_cls GT cl (mi_ft P)) (hpl : mi_plc GT cl P j) (hown : s.vm.findClass (mi_nm P j).cls = some m.cls) (hname : (mi_nm P j).name = "<init>" → meth.name = "<init>")
    (hK : va_K D cl (mi_tys tA) s) (hX : va_X (b 0) L xs s s.heap) (hbl : b 0 < s.heap.size) (hbB : b 0 < B) (hR : mi_R D cl tA b B h H) (hS : va_S (fun q => B ≤ q) s.heap H locs)
    (hstr : ∀ ix t, mi_cs P j ix = some (.retAddr t) → ∃ text, vk_R (mi_nm P j).cls ix text (b (t + 1)) s)
    {i : Instr} {st st' : List Value} (hi : mi_heap P L xs j i st h = some (st', h')) (hd : decode cc pc = .ok (i, mi_len i)) (hn0 : n0 + cells = h.1) (hs0 : s0 + slots = h.2.1) (hRc : h'.1 ≤ n0 + R.cells) (hRs : h'.2.1 ≤ s0 + R.slots)
    (kk : ∀ (H1 : Heap) (locs1 : List Loc) (cells1 slots1 : Nat), mi_R D cl tA b B h' H1 → va_S (fun q => B ≤ q) s.heap H1 locs1 → n0 + cells1 = h'.1 → s0 + slots1 = h'.2.1 → W p l e R s m args below meth c H1 locs1 cells1 slots1 Q (F0 m (pc + mi_len i) ls (st'.map (mi_v b B)))) : W p l e R s m args below meth c H locs cells slots Q (F0 m pc ls (st.map (mi_v b B))) := by
  unfold mi_heap at hi
  split at hi
  · next ix a r =>
    obtain ⟨v, hv, e1⟩ := Option.map_eq_some_iff.mp hi
    cases e1
    unfold mi_get_f at hv
    split at hv
    · next ci fs cj k w hg hf =>
      split at hv
      · next hc =>
        obtain ⟨h0, rfl⟩ := hc
        exact mi_getf hx hb hts hcl hown hK hpl.1 hR h0 hg hf hv hd (kk H locs cells slots hR hS hn0 hs0)
      · cases hv
    · cases hv
  · next ix v a r =>
    obtain ⟨g, hv, e1⟩ := Option.map_eq_some_iff.mp hi
    cases e1
    unfold mi_put_f at hv
    split at hv
    · next ci fs cj k w hg hf =>
      split at hv
      · next hc =>
        obtain ⟨rfl, h0, rfl, hl, hfit⟩ := hc
        cases hv
        exact mi_putf hx hb hts hcl hown hK (ini := decide ((mi_nm P j).name = "<init>")) (fun z => hname (of_decide_eq_true z)) hpl.1 hR hS h0 hg hf hl hfit hd (fun H1 locs1 r1 r2 => kk H1 locs1 cells slots r1 r2 hn0 hs0)
      · cases hv
    · cases hv
  · next x a r =>
    obtain ⟨v, hv, e1⟩ := Option.map_eq_some_iff.mp hi
    cases e1
    unfold mi_ld_i4 at hv
    split at hv
    · next h0 =>
      subst h0
      split at hv
      · cases hv
      · next hin => cases hv; exact mi_ald_s hx hb hX hbl hbB hS hin hd (kk H locs cells slots hR hS hn0 hs0)
    · next h0 =>
      split at hv
      · next n f hg =>
        split at hv
        · cases hv
        · next hin => cases hv; exact mi_ald_i hx hb hK hR h0 hg hin hd (kk H locs cells slots hR hS hn0 hs0)
      · cases hv
  · next x a r =>
    obtain ⟨v, hv, e1⟩ := Option.map_eq_some_iff.mp hi
    cases e1
    unfold mi_ld_i8 at hv
    split at hv
    · next n f hg =>
      split at hv
      · cases hv
      · next hc => cases hv; exact mi_ald_l hx hb hK hR (fun z => hc (Or.inl z)) hg (fun z => hc (Or.inr z)) hd (kk H locs cells slots hR hS hn0 hs0)
    · cases hv
  · next x a r =>
    obtain ⟨v, hv, e1⟩ := Option.map_eq_some_iff.mp hi
    cases e1
    unfold mi_ld_i1 at hv
    split at hv
    · next n f hg =>
      split at hv
      · cases hv
      · next hc => cases hv; exact mi_ald_z hx hb hK hR (fun z => hc (Or.inl z)) hg (fun z => hc (Or.inr z)) hd (kk H locs cells slots hR hS hn0 hs0)
    · cases hv
  · next v x a r =>
    obtain ⟨g, hv, e1⟩ := Option.map_eq_some_iff.mp hi
    cases e1
    unfold mi_as_i4 at hv
    split at hv
    · next n f hg =>
      split at hv
      · cases hv
      · next hc => cases hv; exact mi_ast_i hx hb hK hR hS (fun z => hc (Or.inl z)) hg (fun z => hc (Or.inr z)) hd (fun H1 locs1 r1 r2 => kk H1 locs1 cells slots r1 r2 hn0 hs0)
    · cases hv
  · next v x a r =>
    obtain ⟨g, hv, e1⟩ := Option.map_eq_some_iff.mp hi
    cases e1
    unfold mi_as_i8 at hv
    split at hv
    · next n f hg =>
      split at hv
      · cases hv
      · next hc => cases hv; exact mi_ast_l hx hb hK hR hS (fun z => hc (Or.inl z)) hg (fun z => hc (Or.inr z)) hd (fun H1 locs1 r1 r2 => kk H1 locs1 cells slots r1 r2 hn0 hs0)
    · cases hv
  · next v x a r =>
    obtain ⟨g, hv, e1⟩ := Option.map_eq_some_iff.mp hi
    cases e1
    unfold mi_as_i1 at hv
    split at hv
    · next n f hg =>
      split at hv
      · cases hv
      · next hc =>
        split at hv
        · next hz => cases hv; exact mi_ast_z hx hb hK hR hS (fun z => hc (Or.inl z)) hg (fun z => hc (Or.inr z)) hz hd (fun H1 locs1 r1 r2 => kk H1 locs1 cells slots r1 r2 hn0 hs0)
        · cases hv
    · cases hv
  · next a r =>
    obtain ⟨v, hv, e1⟩ := Option.map_eq_some_iff.mp hi
    cases e1
    unfold mi_alen at hv
    split at hv
    · next h0 => subst h0; cases hv; exact mi_len_s hx hb hX hbl hbB hS hd (kk H locs cells slots hR hS hn0 hs0)
    · next h0 =>
      split at hv
      · next x hg => cases hv; exact mi_len_a hx hb hK hR h0 hg (Or.inl rfl) hd (kk H locs cells slots hR hS hn0 hs0)
      · next x hg => cases hv; exact mi_len_a hx hb hK hR h0 hg (Or.inr (Or.inl rfl)) hd (kk H locs cells slots hR hS hn0 hs0)
      · next x hg => cases hv; exact mi_len_a hx hb hK hR h0 hg (Or.inr (Or.inr rfl)) hd (kk H locs cells slots hR hS hn0 hs0)
      · cases hv
  · next t n r =>
    split at hi
    · cases hi
    · next hc =>
      obtain ⟨x, hz, e1⟩ := Option.map_eq_some_iff.mp hi
      cases e1
      have z1 : h.1 + 1 ≤ n0 + R.cells := hRc
      have z2 : h.2.1 + n.toNatClampNeg ≤ s0 + R.slots := hRs
      refine mi_newa hx hb hts har hK hR hS hz (fun z => hc (Or.inl z)) (Nat.not_lt.mp fun z => hc (Or.inr z)) (by omega) (by omega) hd (fun H1 r1 r2 => kk H1 locs _ _ r1 r2 ?_ ?_)
      · show n0 + (cells + 1) = h.1 + 1; omega
      · show s0 + (slots + n.toNatClampNeg) = h.2.1 + n.toNatClampNeg; omega
  · next ix =>
    obtain ⟨ci, hz, e1⟩ := Option.map_eq_some_iff.mp hi
    cases e1
    obtain ⟨C, T, hc, hlk⟩ := hpl.2.1 ix ci hz
    have z1 : h.1 + 1 ≤ n0 + R.cells := hRc
    have z2 : h.2.1 + mi_nf P ci ≤ s0 + R.slots := hRs
    refine mi_newo hx hb hts hcl hown hK hR hS hc hlk (by omega) (by omega) hd (fun H1 r1 r2 => kk H1 locs _ _ r1 r2 ?_ ?_)
    · show n0 + (cells + 1) = h.1 + 1; omega
    · show s0 + (slots + mi_nf P ci) = h.2.1 + mi_nf P ci; omega
  · split at hi
    · next x hz => cases hi; exact lv_ldc hx hb hown (hts _ (hpl.2.2.1 _ x hz)) hd (kk H locs cells slots hR hS hn0 hs0)
    · next t hz =>
      cases hi
      obtain ⟨text, hv⟩ := hstr _ t hz
      exact va_ldcS hx hb hown hv hd (kk H locs cells slots hR hS hn0 hs0)
    · cases hi
  · split at hi
    · next x hz => cases hi; exact lv_ldcw hx hb hown (hts _ (hpl.2.2.1 _ x hz)) hd (kk H locs cells slots hR hS hn0 hs0)
    · cases hi
  · split at hi
    · next x hz => cases hi; exact lv_ldc2 hx hb hown (hts _ (hpl.2.2.2 _ x hz)) hd (kk H locs cells slots hR hS hn0 hs0)
    · cases hi
  · cases hi
end MiStep
