/-! Contracts of all that the small machine has run. -/
theorem mi_lm_args (b : Nat → Nat) (B : Nat) (as : List Value) : ∀ i : Nat, lv_args i (as.map (mi_v b B)) = mi_lm b B (lv_args i as) := by
  induction as with
  | nil => intro i; rfl
  | cons v t ih =>
    intro i
    show (i, mi_v b B v) :: lv_args (if (mi_v b B v).category = 2 then i + 2 else i + 1) (t.map (mi_v b B)) = (i, mi_v b B v) :: mi_lm b B (lv_args (if v.category = 2 then i + 2 else i + 1) t)
    rw [mi_v_cat, ih]
theorem mi_sl_len (b : Nat → Nat) (B : Nat) (as : List Value) : (lg_sl (as.map (mi_v b B))).length = mi_wt as := by
  induction as with
  | nil => rfl
  | cons v t ih =>
    show (List.flatMap _ (mi_v b B v :: t.map (mi_v b B))).length = (v.category :: t.map fun v => v.category).sum
    rw [List.flatMap_cons, List.length_append, List.sum_cons, mi_v_cat]
    have e1 : (List.flatMap (fun v => if v.category = 2 then [Slot.val v, .second] else [.val v]) (t.map (mi_v b B))).length = (t.map fun v => v.category).sum := ih
    rw [e1]
    rcases lv_cat v with h | h
    · rw [if_neg (by omega), h]; rfl
    · rw [if_pos h, h]; rfl
/-! bodies of methods that the machine has no entry for (vx_ofW, vx_ofWH of the names, with plainFor) -/
theorem mi_ofW {l : Launch} {y : MethodName} {ws ws' : List Cond} {rm : Room} {Pc : Array Value → State → Prop} {Qc : Array Value → State → Outcome → State → Prop} {XC : String → State → State → Prop} {mc ms : Nat} {free : Addr → Prop} {cc : ByteArray} {maxL : Nat} {ret : Option FieldType}
    (hy : plainFor y = true) (hw : ws = Cond.code y cc maxL ret :: ws')
    (body : ∀ p e s m args below meth c s₁, BodyLoose p l y (headSpec ws rm) cc maxL ret e s m args below meth c s₁ → c.maxLocals = maxL → (∀ x ∈ c.exceptionTable.toList, False) → Pc args s →
      W p l e (headSpec ws rm).room s m args below meth c s.heap [] 0 0 (vx_MQ below Qc XC args s mc ms free) (entryFrame m args maxL)) : vx_Met l y ws rm Pc Qc XC mc ms free := by
  refine MetFree.of_bodySF (code := cc) (maxLocals := maxL) (ret := ret) hy ?_ ?_
  · intro args s m h hn
    obtain ⟨meth, c, h1, h2, h3, h4, h5, h6, -, -⟩ := Cond.code_spec hn (atoms_spec (ws := ws) h _ (by rw [hw]; exact List.mem_cons_self))
    exact ⟨meth, c, h1, h2, h3, h4, h5, h6⟩
  · intro p e s m args below meth c s₁ B hml hP _
    have hh0 : s₁.heap = s.heap := by rw [B.state]; rfl
    have ht : ∀ x ∈ c.exceptionTable.toList, False := by
      obtain ⟨meth9, c9, h1, h2, -, -, -, -, h7, -⟩ := Cond.code_spec B.named (atoms_spec (ws := ws) B.pre _ (by rw [hw]; exact List.mem_cons_self))
      cases Option.some.inj (h1.symm.trans B.method)
      cases Option.some.inj (h2.symm.trans (Stand.of_body B).code)
      intro x hx
      rw [Array.isEmpty_iff.mp h7] at hx
      cases hx
    obtain ⟨t, a1, o, b1, b2, b3⟩ := body p e s m args below meth c s₁ B hml ht hP s₁ hh0 (Stand.of_body B)
    exact ⟨t, o, a1, b1, b2, b3⟩
theorem mi_ofWH {l : Launch} {y : MethodName} {ws ws' : List Cond} {rm : Room} {Pc : Array Value → State → Prop} {Qc : Array Value → State → Outcome → State → Prop} {XC : String → State → State → Prop} {mc ms : Nat} {free : Addr → Prop} {cc : ByteArray} {maxL : Nat} {ret : Option FieldType} {hh : List (Nat × Nat × Nat × Nat)}
    (hy : plainFor y = true) (hw : ws = Cond.codeWith y cc maxL ret hh :: ws')
    (body : ∀ p e s m args below meth c s₁, BodyLoose p l y (headSpec ws rm) cc maxL ret e s m args below meth c s₁ → c.maxLocals = maxL → Pc args s →
      W p l e (headSpec ws rm).room s m args below meth c s.heap [] 0 0 (vx_MQ below Qc XC args s mc ms free) (entryFrame m args maxL)) : vx_Met l y ws rm Pc Qc XC mc ms free := by
  refine MetFree.of_bodySF (code := cc) (maxLocals := maxL) (ret := ret) hy ?_ ?_
  · intro args s m h hn
    obtain ⟨m9, meth, c, hn9, h1, h2, h3, h4, -, h5, h6, -⟩ := Cond.codeWith_spec (atoms_spec (ws := ws) h _ (by rw [hw]; exact List.mem_cons_self))
    cases hn.symm.trans hn9
    exact ⟨meth, c, h1, h2, h3, h4, h5, h6⟩
  · intro p e s m args below meth c s₁ B hml hP _
    have hh0 : s₁.heap = s.heap := by rw [B.state]; rfl
    obtain ⟨t, a1, o, b1, b2, b3⟩ := body p e s m args below meth c s₁ B hml hP s₁ hh0 (Stand.of_body B)
    exact ⟨t, o, a1, b1, b2, b3⟩
section MiSound
variable {l : Launch} {b : Nat → Nat} {B : Nat} {D : va_G} {cl : List vw_C} {tA : FieldType → ClassId} {GT : List Cond} {P : mi_P} {L : Nat} {xs : Nat → Int32} {SK : List (String × Nat × String × Nat)} {NC : List (String × String)} {ZT : State → Prop} {fuel : Nat}
theorem mi_F_of {s t : State} {H : Heap} {locs : List Loc} (hS : va_S (fun q => B ≤ q) s.heap H locs) (hz : H.size ≤ t.heap.size) (ho : ∀ q : Nat, q < H.size → t.heap[q]? = H[q]?) : va_F (fun q => B ≤ q) s t :=
  ⟨Nat.le_trans hS.1 hz, fun q h1 h2 => (ho q (Nat.lt_of_lt_of_le h1 hS.1)).trans (hS.2.1 q h1 h2)⟩
set_option maxHeartbeats 2000000 in
/-- a frame's run gives the contract's end -/
theorem mi_body {p : Program} {e : Env} {s : State} {m : MethodId} {args : Array Value} {below : List Frame} {meth : Method} {c : Code} {d j : Nat} {as : List Value} {h : mi_H} {o : mi_O} {h' : mi_H} (hZT : mi_sta B ZT) (hprim : mi_prim b B GT P ZT) (hok : mi_ok GT cl P SK NC) (htr : l.stackTraces = false) (hbB : b 0 < B)
    (hcall : ∀ k as g o g', mi_call P L xs fuel d k as g = some (o, g') → mi_Met D cl tA b B L xs SK NC ZT GT P l d k as g o g')
    (hx : p.tables.exec = Jvm.exec) (hb : c.code = mi_cd P j) (hml : c.maxLocals = mi_mx P j) (hr : meth.sig.returnType = mi_rt P j) (hlocks : meth.locks = false) (htab : c.exceptionTable.toList = tableOf (mi_hh P j)) (hts : ∀ w ∈ GT, w.before args s = true) (hown : s.vm.findClass (mi_nm P j).cls = some m.cls) (hname : meth.name = (mi_nm P j).name)
    (hPc : mi_Pc D cl tA b B L xs SK NC ZT as h args s) (hwt : mi_wt as ≤ mi_mx P j) (hrun : mi_run P L xs (mi_call P L xs fuel d) j fuel 0 (lv_args 0 as) [] h = some (o, h')) :
    W p l e (mi_rm (d + 1) h h') s m args below meth c s.heap [] 0 0 (vx_MQ below (mi_QO D cl tA b B o h') (mi_XO D cl tA b B o h') args s (h'.1 - h.1) (h'.2.1 - h.2.1) (fun q => B ≤ q)) (entryFrame m args (mi_mx P j)) := by
  obtain ⟨rfl, hR, hK, hX, hbl, hZ⟩ := hPc
  have hle : mi_le h h' := mi_run_le (fun k as g o g' z => mi_call_le d k as g o g' z) _ _ _ _ _ _ _ hrun
  have hle : h.1 ≤ h'.1 ∧ h.2.1 ≤ h'.2.1 := hle
  have hl := lv_entry (as.map (mi_v b B)) (n := mi_mx P j) (by rw [mi_sl_len]; exact hwt)
  rw [lg_entry_eq]
  generalize (lg_sl (as.map (mi_v b B)) ++ List.replicate (mi_mx P j - (lg_sl (as.map (mi_v b B))).length) Slot.unset).toArray = ls at hl ⊢
  rw [mi_lm_args] at hl
  refine mi_run_ok (R := mi_rm (d + 1) h h') (n0 := h.1) (s0 := h.2.1) (o := o) (h' := h') hZT hprim hok hx hb hml htab hts hown (fun z => by rw [hname]; exact z) hK hX hbl hbB hZ (by show 10 + d + 1 ≤ 10 + (d + 1); omega) (Nat.le_refl _) (fun k as g o g' z => ⟨hcall k as g o g' z, mi_call_le d k as g o g' z⟩)
    (by show h'.1 ≤ h.1 + (h'.1 - h.1); omega) (by show h'.2.1 ≤ h.2.1 + (h'.2.1 - h.2.1); omega) ?_ ?_ ?_ fuel 0 (lv_args 0 as) [] h hrun ls s.heap [] 0 0 hl hR va_S.rf rfl rfl
  · -- returns
    intro pc i st v ls H locs cells slots ho hi hv hR1 hS1 z1 z2
    have hd := (mi_dec_ok ((hok.2.2.2.2 j).2.1 pc i hi)).1
    have c1 : cells = h'.1 - h.1 := by omega
    have c2 : slots = h'.2.1 - h.2.1 := by omega
    subst c1; subst c2; subst ho
    refine vx_ret ?_
    have hq : ∀ t : State, t.heap = H → s.WarmedH t.vm → ∀ w : Option Value, w = v → mi_QO D cl tA b B (.inl v) h' (as.map (mi_v b B)).toArray s (.returned (w.map (mi_v b B))) t := fun t ht hW w hw => ⟨v, rfl, by rw [hw], by rw [ht]; exact hR1, hS1.F ht⟩
    unfold mi_ret at hv
    split at hv
    · split at hv
      · next x rt hrt => cases hv; exact W.iret (v := x) hx hb (hr.trans hrt) (fun t ht hW => hq t ht hW _ rfl) hS1.2.2 (hd rfl)
      · next x rt hrt =>
        split at hv
        · next hz => cases hv; exact W.zret (v := x) (ty := .boolean) hx hb (hr.trans hrt) (mi_fit_ok hz (fun _ => 0) 0).1 (fun t ht hW => hq t ht hW _ rfl) hS1.2.2 (hd rfl)
        · cases hv
      · cases hv
    · split at hv
      · next x rt hrt => cases hv; exact W.lret (v := x) hx hb (hr.trans hrt) (fun t ht hW => hq t ht hW _ rfl) hS1.2.2 (hd rfl)
      · cases hv
    · split at hv
      · next a rt C hrt => cases hv; exact W.aret (v := .ref (mi_ad b B a)) hx hb (hr.trans hrt) (Or.inl ⟨_, rfl⟩) (Or.inr ⟨_, rfl⟩) (fun t ht hW => hq t ht hW _ rfl) hS1.2.2 (hd rfl)
      · cases hv
    · split at hv
      · next a rt C hrt => cases hv; exact W.aret (v := .ref (b (a + 1))) hx hb (hr.trans hrt) (Or.inl ⟨_, rfl⟩) (Or.inr ⟨_, rfl⟩) (fun t ht hW => hq t ht hW _ rfl) hS1.2.2 (hd rfl)
      · cases hv
    · split at hv
      · next rt hrt => cases hv; exact W.vret hx hb (hr.trans hrt) (fun t ht hW => hq t ht hW _ rfl) hS1.2.2 (hd rfl)
      · cases hv
    · cases hv
  · -- throws
    intro pc E h1 ls H locs cells slots ho hE he hsz hR1 hS1 z1 z2
    obtain ⟨text, names, ik, is, ic, tt, hsk, hfE, hfn, hnl, w1, w2, w3, w4, hhe, d0, d3, d4, d6, d9⟩ := (hok.2.2.2.2 j).2.2.2.1 pc E hE
    have hstr := hZ.2.2.1 _ hsk
    have hcl := hok.2.2.2.1
    subst he; subst ho
    have y1 : (mi_push h1 6 mi_dead).1 = h1.1 + 1 := rfl
    have y2 : (mi_push h1 6 mi_dead).2.1 = h1.2.1 + 6 := rfl
    have hnil : c.exceptionTable.toList = [] := by
      rw [htab]
      rw [List.isEmpty_iff.mp hhe]
      rfl
    refine mi_throwS hx hb htr hown hfE hfn (hts _ w1) (hts _ w2) hstr (fun w hw => hts w (w3 w hw)) w4 hZ.1 hZ.2.1 hS1 (by rw [hml]; exact hsz) d0 d3 d4 d6 d9 (by rw [hnil]; intro x hx9; cases hx9) ?_ ?_ ?_ ?_ hlocks ?_ hS1.2.2 ?_ ?_
    · show names.length + 3 < 10 + (d + 1); omega
    · show 0 + (13 * (names.length + 1) + 43) ≤ 200 + 64 * (d + 1); omega
    · show cells + 1 ≤ (mi_push h1 6 mi_dead).1 - h.1; omega
    · show slots + 6 ≤ (mi_push h1 6 mi_dead).2.1 - h.2.1; omega
    · intro t ht hz9 ho9
      refine ⟨rfl, mi_push_ok hR1 hz9 ho9 ?_, mi_F_of hS1 (by omega) ho9⟩
      intro r hr9
      have : (1000000 : Nat) < cl.length := (List.getElem?_eq_some_iff.mp hr9).1
      omega
    · omega
    · omega
  · -- lets a throw through
    intro pc E q9 ce ls H locs cells slots rest ho hhe hR1 hS1 z1 z2 hce hcv hcl9
    have hnil : c.exceptionTable.toList = [] := by
      rw [htab]
      rw [List.isEmpty_iff.mp hhe]
      rfl
    subst ho
    exact vx_out (by rw [hnil]; intro x hx9; cases hx9) hlocks hce hcv hcl9 (fun t ht hW => ⟨rfl, by rw [ht]; exact hR1, hS1.F ht⟩) hS1.2.2 (by omega) (by omega)
/-- THE CONTRACT of every call that the small machine has run to its end -/
theorem mi_sound (hZT : mi_sta B ZT) (hprim : mi_prim b B GT P ZT) (hok : mi_ok GT cl P SK NC) (htr : l.stackTraces = false) (hbB : b 0 < B) : ∀ (d j : Nat) (as : List Value) (h : mi_H) (o : mi_O) (h' : mi_H), mi_call P L xs fuel d j as h = some (o, h') → mi_Met D cl tA b B L xs SK NC ZT GT P l d j as h o h' := by
  intro d
  induction d with
  | zero => intro j as h o h' hc; cases hc
  | succ d ih =>
    intro j as h o h' hc
    unfold mi_call at hc
    split at hc
    · next hwt =>
      have hpl := (hok.2.2.2.2 j).2.2.2.2.2.1
      unfold mi_Met
      by_cases hhe : (mi_hh P j).isEmpty = true
      · have hcw : mi_cw P j = Cond.code (mi_nm P j) (mi_cd P j) (mi_mx P j) (mi_rt P j) := by unfold mi_cw; rw [if_pos hhe]
        refine mi_ofW (cc := mi_cd P j) (maxL := mi_mx P j) (ret := mi_rt P j) (ws' := GT) hpl (by unfold mi_ws; rw [hcw]) ?_
        intro p e s m args below meth c s₁ Bd hml hnone hPc
        have hts := atoms_spec (ws := mi_ws GT P j) Bd.pre
        refine mi_body hZT hprim hok htr hbB ih Bd.exec Bd.bytes hml Bd.returns Bd.notSynchronized ?_ (fun w hw => hts w (List.mem_cons_of_mem _ hw)) (findClass_of_methodNamed Bd.named) (name_of_methodNamed Bd.named Bd.method).1 hPc hwt hc
        rw [List.isEmpty_iff.mp hhe]
        exact List.eq_nil_iff_forall_not_mem.mpr hnone
      · have hcw : mi_cw P j = Cond.codeWith (mi_nm P j) (mi_cd P j) (mi_mx P j) (mi_rt P j) (mi_hh P j) := by unfold mi_cw; rw [if_neg hhe]
        refine mi_ofWH (cc := mi_cd P j) (maxL := mi_mx P j) (ret := mi_rt P j) (hh := mi_hh P j) (ws' := GT) hpl (by unfold mi_ws; rw [hcw]) ?_
        intro p e s m args below meth c s₁ Bd hml hPc
        have hts := atoms_spec (ws := mi_ws GT P j) Bd.pre
        refine mi_body hZT hprim hok htr hbB ih Bd.exec Bd.bytes hml Bd.returns Bd.notSynchronized ?_ (fun w hw => hts w (List.mem_cons_of_mem _ hw)) (findClass_of_methodNamed Bd.named) (name_of_methodNamed Bd.named Bd.method).1 hPc hwt hc
        have h9 := hts (mi_cw P j) List.mem_cons_self
        rw [hcw] at h9
        exact vx_table (x := mi_nm P j) Bd h9
    · cases hc
end MiSound
