section MiArr
variable {p : Program} {l : Launch} {e : Env} {R : Room} {s : State} {m : MethodId} {args : Array Value} {below : List Frame} {meth : Method} {c : Code} {H : Heap} {locs : List Loc} {cells slots : Nat} {Q : State → Prop}
variable {cc : ByteArray} {pc : Nat} {ls : Array Slot} {b : Nat → Nat} {B : Nat} {D : va_G} {cl : List vw_C} {tA : FieldType → ClassId} {h : mi_H} {rest : List Value}
theorem mi_ald_i (hx : p.tables.exec = Jvm.exec) (hb : c.code = cc) (hK : va_K D cl (mi_tys tA) s) (hR : mi_R D cl tA b B h H) {a n : Nat} {f : Nat → Int32} {i : Int32} (ha : a ≠ 0) (hg : mi_get h a = some (.inl (.int, n, .inl f))) (hin : vp_in i n) (hd : decode cc pc = .ok (.iaload, 1))
    (kk : W p l e R s m args below meth c H locs cells slots Q (F0 m (pc + 1) ls ((.int (f i.toNatClampNeg) :: rest).map (mi_v b B)))) : W p l e R s m args below meth c H locs cells slots Q (F0 m pc ls ((.int i :: .ref a :: rest).map (mi_v b B))) :=
  va_iald (ws := [(mi_ad b B a, .inl (tA .int, n, .inl f))]) hx hb hK (mi_one (D := D) (cl := cl) (mi_get_ok hR hg ha).1) 0 0 rfl rfl hin hd kk
theorem mi_ald_l (hx : p.tables.exec = Jvm.exec) (hb : c.code = cc) (hK : va_K D cl (mi_tys tA) s) (hR : mi_R D cl tA b B h H) {a n : Nat} {f : Nat → Int64} {i : Int32} (ha : a ≠ 0) (hg : mi_get h a = some (.inl (.long, n, .inr (.inl f)))) (hin : vp_in i n) (hd : decode cc pc = .ok (.laload, 1))
    (kk : W p l e R s m args below meth c H locs cells slots Q (F0 m (pc + 1) ls ((.long (f i.toNatClampNeg) :: rest).map (mi_v b B)))) : W p l e R s m args below meth c H locs cells slots Q (F0 m pc ls ((.int i :: .ref a :: rest).map (mi_v b B))) :=
  va_lald (ws := [(mi_ad b B a, .inl (tA .long, n, .inr (.inl f)))]) hx hb hK (mi_one (D := D) (cl := cl) (mi_get_ok hR hg ha).1) 0 1 rfl rfl hin hd kk
theorem mi_ald_z (hx : p.tables.exec = Jvm.exec) (hb : c.code = cc) (hK : va_K D cl (mi_tys tA) s) (hR : mi_R D cl tA b B h H) {a n : Nat} {f : Nat → Int32} {i : Int32} (ha : a ≠ 0) (hg : mi_get h a = some (.inl (.boolean, n, .inl f))) (hin : vp_in i n) (hd : decode cc pc = .ok (.baload, 1))
    (kk : W p l e R s m args below meth c H locs cells slots Q (F0 m (pc + 1) ls ((.int (f i.toNatClampNeg) :: rest).map (mi_v b B)))) : W p l e R s m args below meth c H locs cells slots Q (F0 m pc ls ((.int i :: .ref a :: rest).map (mi_v b B))) :=
  va_zald (ws := [(mi_ad b B a, .inl (tA .boolean, n, .inl f))]) hx hb hK (mi_one (D := D) (cl := cl) (mi_get_ok hR hg ha).1) 0 2 rfl rfl hin hd kk
theorem mi_ald_s (hx : p.tables.exec = Jvm.exec) (hb : c.code = cc) {L : Nat} {xs : Nat → Int32} (hX : va_X (b 0) L xs s s.heap) (hbl : b 0 < s.heap.size) (hbB : b 0 < B) (hS : va_S (fun q => B ≤ q) s.heap H locs) {i : Int32} (hin : vp_in i L) (hd : decode cc pc = .ok (.iaload, 1))
    (kk : W p l e R s m args below meth c H locs cells slots Q (F0 m (pc + 1) ls ((.int (xs i.toNatClampNeg) :: rest).map (mi_v b B)))) : W p l e R s m args below meth c H locs cells slots Q (F0 m pc ls ((.int i :: .ref 0 :: rest).map (mi_v b B))) :=
  va_sld hx hb hX hbl (Nat.not_le.mpr hbB) hS hin hd kk
theorem mi_len_s (hx : p.tables.exec = Jvm.exec) (hb : c.code = cc) {L : Nat} {xs : Nat → Int32} (hX : va_X (b 0) L xs s s.heap) (hbl : b 0 < s.heap.size) (hbB : b 0 < B) (hS : va_S (fun q => B ≤ q) s.heap H locs) (hd : decode cc pc = .ok (.arraylength, 1))
    (kk : W p l e R s m args below meth c H locs cells slots Q (F0 m (pc + 1) ls ((.int (Int32.ofNat L) :: rest).map (mi_v b B)))) : W p l e R s m args below meth c H locs cells slots Q (F0 m pc ls ((.ref 0 :: rest).map (mi_v b B))) :=
  va_slen hx hb hX hbl (Nat.not_le.mpr hbB) hS hd kk
theorem mi_len_a (hx : p.tables.exec = Jvm.exec) (hb : c.code = cc) (hK : va_K D cl (mi_tys tA) s) (hR : mi_R D cl tA b B h H) {a : Nat} {ty : FieldType} {x : vp_A} (ha : a ≠ 0) (hg : mi_get h a = some (.inl (ty, x))) (hty : ty = .int ∨ ty = .long ∨ ty = .boolean) (hd : decode cc pc = .ok (.arraylength, 1))
    (kk : W p l e R s m args below meth c H locs cells slots Q (F0 m (pc + 1) ls ((.int (Int32.ofNat x.1) :: rest).map (mi_v b B)))) : W p l e R s m args below meth c H locs cells slots Q (F0 m pc ls ((.ref a :: rest).map (mi_v b B))) := by
  rcases hty with rfl | rfl | rfl
  · exact va_alen (ws := [(mi_ad b B a, .inl (tA .int, x))]) hx hb hK (mi_one (D := D) (cl := cl) (mi_get_ok hR hg ha).1) 0 0 rfl rfl rfl hd kk
  · exact va_alen (ws := [(mi_ad b B a, .inl (tA .long, x))]) hx hb hK (mi_one (D := D) (cl := cl) (mi_get_ok hR hg ha).1) 0 1 rfl rfl rfl hd kk
  · exact va_alen (ws := [(mi_ad b B a, .inl (tA .boolean, x))]) hx hb hK (mi_one (D := D) (cl := cl) (mi_get_ok hR hg ha).1) 0 2 rfl rfl rfl hd kk
theorem mi_updI (f : Nat → Int32) (k : Nat) (x : Int32) : updV (fun j => Value.int (f j)) k (.int x) = fun j => .int (upd f k x j) := by
  funext q
  by_cases hq : q = k
  · subst hq; simp [updV, upd]
  · simp [updV, upd, hq]
theorem mi_updL (f : Nat → Int64) (k : Nat) (x : Int64) : updV (fun j => Value.long (f j)) k (.long x) = fun j => .long (vp_updL f k x j) := by
  funext q
  by_cases hq : q = k
  · subst hq; simp [updV, vp_updL]
  · simp [updV, vp_updL, hq]
theorem mi_ast_i (hx : p.tables.exec = Jvm.exec) (hb : c.code = cc) (hK : va_K D cl (mi_tys tA) s) (hR : mi_R D cl tA b B h H) (hS : va_S (fun q => B ≤ q) s.heap H locs) {a n : Nat} {f : Nat → Int32} {i x : Int32} (ha : a ≠ 0) (hg : mi_get h a = some (.inl (.int, n, .inl f))) (hin : vp_in i n) (hd : decode cc pc = .ok (.iastore, 1))
    (kk : ∀ (H1 : Heap) (locs1 : List Loc), mi_R D cl tA b B (mi_set h a (.inl (.int, n, .inl (upd f i.toNatClampNeg x)))) H1 → va_S (fun q => B ≤ q) s.heap H1 locs1 → W p l e R s m args below meth c H1 locs1 cells slots Q (F0 m (pc + 1) ls (rest.map (mi_v b B)))) : W p l e R s m args below meth c H locs cells slots Q (F0 m pc ls ((.int x :: .int i :: .ref a :: rest).map (mi_v b B))) := by
  obtain ⟨hat, hB⟩ := mi_get_ok hR hg ha
  have hat : H[mi_ad b B a]? = some (arrV (tA .int) n (fun j => .int (f j))) := hat
  refine W.iast hx hb hat ((hK.2 0 _ rfl).1 n (fun j => .int (f j))) (fun q => by cases q) (by rw [arrV_size]; exact hin) rfl rfl hd fun H1 e1 z oq => ?_
  refine kk H1 _ (mi_set_ok hR ha z oq ?_) (hS.put z oq hB)
  show H1[mi_ad b B a]? = some (arrV (tA .int) n (fun j => .int (upd f i.toNatClampNeg x j)))
  rw [e1, arrV_store, mi_updI]
theorem mi_ast_l (hx : p.tables.exec = Jvm.exec) (hb : c.code = cc) (hK : va_K D cl (mi_tys tA) s) (hR : mi_R D cl tA b B h H) (hS : va_S (fun q => B ≤ q) s.heap H locs) {a n : Nat} {f : Nat → Int64} {i : Int32} {x : Int64} (ha : a ≠ 0) (hg : mi_get h a = some (.inl (.long, n, .inr (.inl f)))) (hin : vp_in i n) (hd : decode cc pc = .ok (.lastore, 1))
    (kk : ∀ (H1 : Heap) (locs1 : List Loc), mi_R D cl tA b B (mi_set h a (.inl (.long, n, .inr (.inl (vp_updL f i.toNatClampNeg x))))) H1 → va_S (fun q => B ≤ q) s.heap H1 locs1 → W p l e R s m args below meth c H1 locs1 cells slots Q (F0 m (pc + 1) ls (rest.map (mi_v b B)))) : W p l e R s m args below meth c H locs cells slots Q (F0 m pc ls ((.long x :: .int i :: .ref a :: rest).map (mi_v b B))) := by
  obtain ⟨hat, hB⟩ := mi_get_ok hR hg ha
  have hat : H[mi_ad b B a]? = some (arrV (tA .long) n (fun j => .long (f j))) := hat
  refine W.last hx hb hat ((hK.2 1 _ rfl).1 n (fun j => .long (f j))) (fun q => by cases q) (by rw [arrV_size]; exact hin) rfl rfl hd fun H1 e1 z oq => ?_
  refine kk H1 _ (mi_set_ok hR ha z oq ?_) (hS.put z oq hB)
  show H1[mi_ad b B a]? = some (arrV (tA .long) n (fun j => .long (vp_updL f i.toNatClampNeg x j)))
  rw [e1, arrV_store, mi_updL]
theorem mi_ast_z (hx : p.tables.exec = Jvm.exec) (hb : c.code = cc) (hK : va_K D cl (mi_tys tA) s) (hR : mi_R D cl tA b B h H) (hS : va_S (fun q => B ≤ q) s.heap H locs) {a n : Nat} {f : Nat → Int32} {i x : Int32} (ha : a ≠ 0) (hg : mi_get h a = some (.inl (.boolean, n, .inl f))) (hin : vp_in i n) (hz : mi_fit .boolean (.int x) = true) (hd : decode cc pc = .ok (.bastore, 1))
    (kk : ∀ (H1 : Heap) (locs1 : List Loc), mi_R D cl tA b B (mi_set h a (.inl (.boolean, n, .inl (upd f i.toNatClampNeg x)))) H1 → va_S (fun q => B ≤ q) s.heap H1 locs1 → W p l e R s m args below meth c H1 locs1 cells slots Q (F0 m (pc + 1) ls (rest.map (mi_v b B)))) : W p l e R s m args below meth c H locs cells slots Q (F0 m pc ls ((.int x :: .int i :: .ref a :: rest).map (mi_v b B))) := by
  obtain ⟨hat, hB⟩ := mi_get_ok hR hg ha
  have hat : H[mi_ad b B a]? = some (arrV (tA .boolean) n (fun j => .int (f j))) := hat
  refine W.zast hx hb hat ((hK.2 2 _ rfl).1 n (fun j => .int (f j))) (fun q => by cases q) (by rw [arrV_size]; exact hin) rfl rfl hd fun H1 e1 z oq => ?_
  refine kk H1 _ (mi_set_ok hR ha z oq ?_) (hS.put z oq hB)
  have hn : narrow .boolean (.int x) = .int x := (mi_fit_ok hz (fun _ => 0) 0).1
  show H1[mi_ad b B a]? = some (arrV (tA .boolean) n (fun j => .int (upd f i.toNatClampNeg x j)))
  rw [e1, hn, arrV_store, mi_updI]
/-- the three kinds of arrays, all zero -/
def mi_zero (t : ArrayType) (n : Nat) : Option (FieldType × vp_A) := match t with
  | .int => some (.int, n, .inl (fun _ => 0))
  | .long => some (.long, n, .inr (.inl (fun _ => 0)))
  | .boolean => some (.boolean, n, .inl (fun _ => 0))
  | _ => none
theorem mi_newa (hx : p.tables.exec = Jvm.exec) (hb : c.code = cc) {GT : List Cond} (hts : ∀ w ∈ GT, w.before args s = true) (har : Cond.arrayClass .int ∈ GT ∧ Cond.arrayClass .long ∈ GT ∧ Cond.arrayClass .boolean ∈ GT) (hK : va_K D cl (mi_tys tA) s) (hR : mi_R D cl tA b B h H) (hS : va_S (fun q => B ≤ q) s.heap H locs)
    {t : ArrayType} {n : Int32} {x : FieldType × vp_A} (hz : mi_zero t n.toNatClampNeg = some x) (hn : ¬ n < 0) (hbytes : n.toNatClampNeg * 8 ≤ 536870912) (hcells : cells + 1 ≤ R.cells) (hslots : slots + n.toNatClampNeg ≤ R.slots) (hd : decode cc pc = .ok (.newarray t, 2))
    (kk : ∀ (H1 : Heap), mi_R D cl tA b B (mi_push h n.toNatClampNeg (.inl x)) H1 → va_S (fun q => B ≤ q) s.heap H1 locs → W p l e R s m args below meth c H1 locs (cells + 1) (slots + n.toNatClampNeg) Q (F0 m (pc + 2) ls ((.ref h.1 :: rest).map (mi_v b B)))) : W p l e R s m args below meth c H locs cells slots Q (F0 m pc ls ((.int n :: rest).map (mi_v b B))) := by
  have key : ∀ (ty : FieldType) (a0 : vp_A) (k : Nat), newarray.typeOf t = ty → x = (ty, a0) → (mi_tys tA)[k]? = some (tA ty, ty) → (∀ C, ty ≠ .object C) → componentBytes ty ≤ 8 → Cond.arrayClass ty ∈ GT → (∀ cA, vp_cell cA a0 = arrV cA n.toNatClampNeg (fun _ => defaultValue ty)) → W p l e R s m args below meth c H locs cells slots Q (F0 m pc ls ((.int n :: rest).map (mi_v b B))) := by
    intro ty a0 k hty hx0 hk hno hcb hw hcell
    subst hx0
    have hRA := (hK.2 k _ hk).2
    have hRA : s.vm.findClass ("[" ++ ty.toString) = some (tA ty) := by
      cases ty with
      | object C => exact absurd rfl (hno C)
      | _ => exact hRA
    refine va_newaK hx hb (by rw [hty]; exact hts _ hw) rfl hd rfl hn rfl (by rw [hty]; exact Nat.le_trans (Nat.mul_le_mul_left _ hcb) hbytes) hcells hslots (mi_top hR) fun H1 cA e1 z1 o1 hAr hNm => ?_
    rw [hty] at hNm e1
    cases Option.some.inj (hRA.symm.trans hNm)
    rw [← mi_top hR] at e1 z1 o1
    refine kk H1 (mi_push_ok hR z1 o1 ?_) ⟨Nat.le_trans hS.1 (by omega), fun q h1 h2 => (o1 q (Nat.lt_of_lt_of_le h1 hS.1)).trans (hS.2.1 q h1 h2), hS.2.2⟩
    show H1[H.size]? = some (vp_cell (tA ty) a0)
    rw [hcell]
    exact e1
  unfold mi_zero at hz
  split at hz
  · cases hz
    exact key .int _ 0 rfl rfl rfl (fun _ q => by cases q) (by decide) har.1 (fun _ => rfl)
  · cases hz
    exact key .long _ 1 rfl rfl rfl (fun _ q => by cases q) (by decide) har.2.1 (fun _ => rfl)
  · cases hz
    exact key .boolean _ 2 rfl rfl rfl (fun _ q => by cases q) (by decide) har.2.2 (fun _ => rfl)
  · cases hz
end MiArr
