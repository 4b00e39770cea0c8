/-! The small machine's heap, and how the machine's own holds it. -/
abbrev mi_tys (tA : FieldType → ClassId) : List (ClassId × FieldType) := [(tA .int, .int), (tA .long, .long), (tA .boolean, .boolean)]
def mi_at (D : va_G) (cl : List vw_C) (tA : FieldType → ClassId) (b : Nat → Nat) (B : Nat) (a : Nat) (x : mi_E) (H : Heap) : Prop := match x with
  | .inl q => H[a]? = some (vp_cell (tA q.1) q.2)
  | .inr o => ∀ r : vw_C, cl[o.1]? = some r → t_OB a (D.1 o.1) r.2.2 (D.2 o.1) H (vp_V (o.2.map (mi_v b B)))
theorem mi_at.kept {D : va_G} {cl : List vw_C} {tA : FieldType → ClassId} {b : Nat → Nat} {B a : Nat} {x : mi_E} {H H1 : Heap} (h : mi_at D cl tA b B a x H) (hq : H1[a]? = H[a]?) : mi_at D cl tA b B a x H1 := by
  cases x with
  | inl q => exact hq.trans h
  | inr o => exact fun r hr => (h r hr).kept hq
/-- the small heap h lies in H, its cell k + 1 at B + k; H ends with it -/
def mi_R (D : va_G) (cl : List vw_C) (tA : FieldType → ClassId) (b : Nat → Nat) (B : Nat) (h : mi_H) (H : Heap) : Prop :=
  H.size + 1 = B + h.1 ∧ 1 ≤ h.1 ∧ ∀ k : Nat, k + 1 < h.1 → mi_at D cl tA b B (B + k) (h.2.2 (k + 1)) H
def mi_get (h : mi_H) (a : Nat) : Option mi_E := if a < h.1 then some (h.2.2 a) else none
def mi_set (h : mi_H) (a : Nat) (x : mi_E) : mi_H := (h.1, h.2.1, fun j => if j = a then x else h.2.2 j)
def mi_push (h : mi_H) (n : Nat) (x : mi_E) : mi_H := (h.1 + 1, h.2.1 + n, fun j => if j = h.1 then x else h.2.2 j)
theorem mi_get_ok {D : va_G} {cl : List vw_C} {tA : FieldType → ClassId} {b : Nat → Nat} {B a : Nat} {x : mi_E} {h : mi_H} {H : Heap} (hR : mi_R D cl tA b B h H) (hg : mi_get h a = some x) (ha : a ≠ 0) : mi_at D cl tA b B (mi_ad b B a) x H ∧ B ≤ mi_ad b B a := by
  cases a with
  | zero => exact absurd rfl ha
  | succ k =>
    unfold mi_get at hg
    split at hg
    · next hlt => cases hg; exact ⟨hR.2.2 k hlt, Nat.le_add_right _ _⟩
    · cases hg
theorem mi_set_ok {D : va_G} {cl : List vw_C} {tA : FieldType → ClassId} {b : Nat → Nat} {B a : Nat} {x : mi_E} {h : mi_H} {H H1 : Heap} (hR : mi_R D cl tA b B h H) (ha : a ≠ 0) (hz : H1.size = H.size) (ho : ∀ q, q ≠ mi_ad b B a → H1[q]? = H[q]?) (hx : mi_at D cl tA b B (mi_ad b B a) x H1) : mi_R D cl tA b B (mi_set h a x) H1 := by
  refine ⟨by rw [hz]; exact hR.1, hR.2.1, fun k hk => ?_⟩
  have hk : k + 1 < h.1 := hk
  show mi_at D cl tA b B (B + k) (if k + 1 = a then x else h.2.2 (k + 1)) H1
  by_cases e : k + 1 = a
  · rw [if_pos e]
    subst e
    exact hx
  · rw [if_neg e]
    refine (hR.2.2 k hk).kept (ho _ fun q => ?_)
    cases a with
    | zero => exact ha rfl
    | succ j =>
      have : B + k = B + j := q
      omega
theorem mi_push_ok {D : va_G} {cl : List vw_C} {tA : FieldType → ClassId} {b : Nat → Nat} {B n : Nat} {x : mi_E} {h : mi_H} {H H1 : Heap} (hR : mi_R D cl tA b B h H) (hz : H1.size = H.size + 1) (ho : ∀ q, q < H.size → H1[q]? = H[q]?) (hx : mi_at D cl tA b B H.size x H1) : mi_R D cl tA b B (mi_push h n x) H1 := by
  obtain ⟨h1, h2, h3⟩ := hR
  refine ⟨by show H1.size + 1 = B + (h.1 + 1); omega, by show 1 ≤ h.1 + 1; omega, fun k hk => ?_⟩
  have hk : k + 1 < h.1 + 1 := hk
  show mi_at D cl tA b B (B + k) (if k + 1 = h.1 then x else h.2.2 (k + 1)) H1
  by_cases e : k + 1 = h.1
  · rw [if_pos e]
    have : B + k = H.size := by omega
    rw [this]
    exact hx
  · rw [if_neg e]
    exact (h3 k (by omega)).kept (ho _ (by omega))
theorem mi_top {D : va_G} {cl : List vw_C} {tA : FieldType → ClassId} {b : Nat → Nat} {B : Nat} {h : mi_H} {H : Heap} (hR : mi_R D cl tA b B h H) : H.size = mi_ad b B h.1 := by
  obtain ⟨h1, h2, -⟩ := hR
  cases hk : h.1 with
  | zero => omega
  | succ k => show H.size = B + k; omega
/-- what may stand in a field -/
def mi_fit (ty : FieldType) (v : Value) : Bool := match ty, v with
  | .int, .int _ => true
  | .long, .long _ => true
  | .boolean, .int x => decide (x = 0) || decide (x = 1)
  | .object _, .ref _ => true
  | .object _, .null => true
  | .array _, .ref _ => true
  | .array _, .null => true
  | _, _ => false
theorem mi_fit_ok {ty : FieldType} {v : Value} (h : mi_fit ty v = true) (b : Nat → Nat) (B : Nat) : narrow ty (mi_v b B v) = mi_v b B v ∧ fits ty (mi_v b B v) = true := by
  unfold mi_fit at h
  split at h
  · exact ⟨rfl, rfl⟩
  · exact ⟨rfl, rfl⟩
  · next x =>
    simp only [Bool.or_eq_true, decide_eq_true_eq] at h
    rcases h with rfl | rfl
    · exact ⟨rfl, rfl⟩
    · exact ⟨rfl, rfl⟩
  · exact ⟨rfl, rfl⟩
  · exact ⟨rfl, rfl⟩
  · exact ⟨rfl, rfl⟩
  · exact ⟨rfl, rfl⟩
  · cases h
/-- what the classes' words give -/
def mi_cls (GT : List Cond) (cl : List vw_C) (fty : Nat → Nat → FieldType) : Prop :=
  ∀ (ci : Nat) (C : String) (T : u_T) (N : Nat), cl[ci]? = some (C, T, N) →
    (∀ w ∈ u_ws C T N, w ∈ GT) ∧ (∀ k, k < N → parseFieldDescriptor (T k).2.2.1 = some (fty ci k)) ∧ (∀ a, a < N → ∀ b, b < N → a ≠ b → (T a).2.1 ≠ (T b).2.1) ∧
    Cond.instantiable C N ∈ GT ∧ Cond.initialized C ∈ GT
def mi_dfs (fty : Nat → Nat → FieldType) (ci N : Nat) : List Value := (List.range N).map (fun k => defaultValue (fty ci k))
theorem mi_dv (b : Nat → Nat) (B : Nat) (ty : FieldType) : mi_v b B (defaultValue ty) = defaultValue ty := by cases ty <;> rfl
theorem mi_dfs_v (b : Nat → Nat) (B : Nat) (fty : Nat → Nat → FieldType) (ci N j : Nat) (h : j < N) : defaultValue (fty ci j) = vp_V ((mi_dfs fty ci N).map (mi_v b B)) j := by
  unfold vp_V mi_dfs
  rw [List.map_map, List.getD_eq_getElem?_getD, List.getElem?_map, List.getElem?_range h]
  exact (mi_dv b B _).symm
/-- the places of a class's file: fields (and whether the method may write one) -/
def mi_fld (GT : List Cond) (cl : List vw_C) (own : String) (ini : Bool) (fld : Nat → Option (Nat × Nat × Bool)) : Prop :=
  ∀ (ix ci k : Nat) (w : Bool), fld ix = some (ci, k, w) → ∃ (C : String) (T : u_T) (N : Nat), cl[ci]? = some (C, T, N) ∧ k < N ∧ Cond.fieldLink own ix (T k).1 (T k).2.1 (T k).2.2.1 ∈ GT ∧ (w = true → (T k).2.2.2 = false ∨ (ini = true ∧ (T k).1 = own))
section MiHeap
variable {p : Program} {l : Launch} {e : Env} {R : Room} {s : State} {m : MethodId} {args : Array Value} {below : List Frame} {meth : Method} {c : Code} {H : Heap} {locs : List Loc} {cells slots : Nat} {Q : State → Prop}
variable {cc : ByteArray} {pc : Nat} {ls : Array Slot} {b : Nat → Nat} {B : Nat} {D : va_G} {cl : List vw_C} {tA : FieldType → ClassId} {GT : List Cond} {fty : Nat → Nat → FieldType} {own : String} {h : mi_H} {rest : List Value}
theorem mi_one {a : Nat} {x : va_E} (hx : va_at D cl (a, x) H) : va_P D cl [(a, x)] H := by
  intro k q hk
  cases k with
  | zero => cases hk; exact hx
  | succ k => cases hk
set_option maxHeartbeats 1000000 in
theorem mi_getf (hx : p.tables.exec = Jvm.exec) (hb : c.code = cc) (hts : ∀ w ∈ GT, w.before args s = true) (hcl : mi_cls GT cl fty) (hown : s.vm.findClass own = some m.cls) (hK : va_K D cl (mi_tys tA) s) {ini : Bool} {fld : Nat → Option (Nat × Nat × Bool)} (hfl : mi_fld GT cl own ini fld) (hR : mi_R D cl tA b B h H)
    {ix a ci k : Nat} {w : Bool} {fs : List Value} {v : Value} (ha : a ≠ 0) (hg : mi_get h a = some (.inr (ci, fs))) (hf : fld ix = some (ci, k, w)) (hv : fs[k]? = some v) (hd : decode cc pc = .ok (.getfield ix, 3))
    (kk : W p l e R s m args below meth c H locs cells slots Q (F0 m (pc + 3) ls ((v :: rest).map (mi_v b B)))) : W p l e R s m args below meth c H locs cells slots Q (F0 m pc ls ((.ref a :: rest).map (mi_v b B))) := by
  obtain ⟨C, T, N, hc, hk, hlink, -⟩ := hfl ix ci k w hf
  obtain ⟨hat, -⟩ := mi_get_ok hR hg ha
  exact va_get (D := D) (cl := cl) (ws := [(mi_ad b B a, .inr (ci, fs.map (mi_v b B)))]) (v := mi_v b B v) hx hb hts (hcl ci C T N hc).1 hown hK (mi_one ⟨_, hc, hat _ hc⟩) 0 rfl hc k hk (hts _ hlink) (fun _ z => z) (by rw [List.getElem?_map, hv]; rfl) hd kk
set_option maxHeartbeats 2000000 in
theorem mi_putf (hx : p.tables.exec = Jvm.exec) (hb : c.code = cc) (hts : ∀ w ∈ GT, w.before args s = true) (hcl : mi_cls GT cl fty) (hown : s.vm.findClass own = some m.cls) (hK : va_K D cl (mi_tys tA) s) {ini : Bool} (hini : ini = true → meth.name = "<init>") {fld : Nat → Option (Nat × Nat × Bool)} (hfl : mi_fld GT cl own ini fld) (hR : mi_R D cl tA b B h H) (hS : va_S (fun q => B ≤ q) s.heap H locs)
    {ix a ci k : Nat} {fs : List Value} {v : Value} (ha : a ≠ 0) (hg : mi_get h a = some (.inr (ci, fs))) (hf : fld ix = some (ci, k, true)) (hl : k < fs.length) (hv : mi_fit (fty ci k) v = true) (hd : decode cc pc = .ok (.putfield ix, 3))
    (kk : ∀ (H1 : Heap) (locs1 : List Loc), mi_R D cl tA b B (mi_set h a (.inr (ci, fs.set k v))) H1 → va_S (fun q => B ≤ q) s.heap H1 locs1 → W p l e R s m args below meth c H1 locs1 cells slots Q (F0 m (pc + 3) ls (rest.map (mi_v b B)))) : W p l e R s m args below meth c H locs cells slots Q (F0 m pc ls ((v :: .ref a :: rest).map (mi_v b B))) := by
  obtain ⟨C, T, N, hc, hk, hlink, hfin⟩ := hfl ix ci k true hf
  have hfin := hfin rfl
  obtain ⟨hat, hB⟩ := mi_get_ok hR hg ha
  obtain ⟨hin, hty, hnm, -, -⟩ := hcl ci C T N hc
  obtain ⟨hn, hfit⟩ := mi_fit_ok hv b B
  have hap := va_apart (own := own) hts hin (fty ci) hty hnm hK hc
  obtain ⟨cell, q1, q2, q3, q4⟩ := hat _ hc
  obtain ⟨hSl, hfc, kC, hkC, hkind⟩ := hK.1 ci _ hc
  obtain ⟨cf, kf, fi, f, hi, hsl⟩ := hSl k hk
  have hst := (u_facts hfc hkC (u_lays hts hin hk) hi).1
  have hlay := hts _ (hin _ (u_in_lay hk))
  unfold u_lay at hlay
  have fin : ∀ H' : Heap, H'[mi_ad b B a]? = some (cell.setSlot f.slot (mi_v b B v)) → H'.size = H.size → (∀ q, q ≠ mi_ad b B a → H'[q]? = H[q]?) → W p l e R s m args below meth c H' (locs ++ [⟨mi_ad b B a, f.slot⟩]) cells slots Q (F0 m (pc + 3) ls (rest.map (mi_v b B))) := by
    intro H' e1 e2 e3
    refine kk H' _ (mi_set_ok hR ha e2 e3 ?_) (hS.put e2 e3 hB)
    intro r hr
    cases hc.symm.trans hr
    rw [hsl] at e1
    have h9 : t_OB (mi_ad b B a) (D.1 ci) N (D.2 ci) H' (updV (vp_V (fs.map (mi_v b B))) k (mi_v b B v)) := ⟨_, e1, q2, q3, t_set q4 hap hk _⟩
    refine h9.to fun j _ => ?_
    rw [vp_updV_set (by rw [List.length_map]; exact hl)]
    show vp_V ((fs.map (mi_v b B)).set k (mi_v b B v)) j = vp_V ((fs.set k v).map (mi_v b B)) j
    rw [List.map_set]
  by_cases hF : (T k).2.2.2 = true
  · rw [if_pos hF] at hlay
    obtain ⟨i1, i2⟩ : ini = true ∧ (T k).1 = own := by
      rcases hfin with z | z
      · rw [hF] at z; cases z
      · exact z
    have hcf : m.cls = cf := by
      obtain ⟨_, _, c', _, _, _, -, -, hf', -, -, -, hown2, -⟩ := Cond.laysFinal_spec hlay
      have e1 : c' = cf := by have := hi.symm.trans hf'; simp at this; exact this.1.symm
      rw [i2] at hown2
      rw [← e1]; exact Option.some.inj (hown.symm.trans hown2)
    have h6 := u_fits hfc hkC hkind (Or.inr hlay) hi (hty k hk) hn hfit
    exact W.putFinK hx hb hown (hts _ hlink) hi hst hcf (hini i1) (by rw [q2]; exact h6) q1 q3 (by rw [hsl]; exact k2_hasslot (q4 k hk)) rfl rfl hd fin
  · rw [if_neg hF] at hlay
    have h6 := u_store hfc hkC hkind hlay hi (hty k hk) hn hfit
    exact W.putK hx hb (f := f) ⟨hown, hts _ hlink, ⟨_, _, _, hi⟩, hst⟩ (by rw [q2]; exact h6) q1 q3 (by rw [hsl]; exact k2_hasslot (q4 k hk)) rfl rfl hd fin
set_option maxHeartbeats 1000000 in
theorem mi_newo (hx : p.tables.exec = Jvm.exec) (hb : c.code = cc) (hts : ∀ w ∈ GT, w.before args s = true) (hcl : mi_cls GT cl fty) (hown : s.vm.findClass own = some m.cls) (hK : va_K D cl (mi_tys tA) s) (hR : mi_R D cl tA b B h H) (hS : va_S (fun q => B ≤ q) s.heap H locs)
    {ix ci N : Nat} {C : String} {T : u_T} (hc : cl[ci]? = some (C, T, N)) (hlk : Cond.classLink own ix C ∈ GT) (hcells : cells + 1 ≤ R.cells) (hslots : slots + N ≤ R.slots) (hd : decode cc pc = .ok (.new ix, 3))
    (kk : ∀ (H1 : Heap), mi_R D cl tA b B (mi_push h N (.inr (ci, mi_dfs fty ci N))) H1 → va_S (fun q => B ≤ q) s.heap H1 locs → W p l e R s m args below meth c H1 locs (cells + 1) (slots + N) Q (F0 m (pc + 3) ls ((.ref h.1 :: rest).map (mi_v b B)))) : W p l e R s m args below meth c H locs cells slots Q (F0 m pc ls (rest.map (mi_v b B))) := by
  obtain ⟨hin, hty, hnm, hinst, hini⟩ := hcl ci C T N hc
  have hKn := hK.1 ci _ hc
  refine W.newcK hx hb hown (hts _ hlk) (hts _ hinst) (hts _ hini) rfl hd hcells hslots hKn.2.1 (mi_top hR) fun H1 kC hkC e1 z1 o1 => ?_
  rw [← mi_top hR] at e1 z1 o1
  refine kk H1 (mi_push_ok hR z1 o1 ?_) ⟨Nat.le_trans hS.1 (by omega), fun q h1 h2 => (o1 q (Nat.lt_of_lt_of_le h1 hS.1)).trans (hS.2.1 q h1 h2), hS.2.2⟩
  intro r hr
  cases hc.symm.trans hr
  exact (u_born (fty ci) hts hin hKn hkC e1 hty).to (fun j hj => mi_dfs_v b B fty ci N j hj)
end MiHeap
