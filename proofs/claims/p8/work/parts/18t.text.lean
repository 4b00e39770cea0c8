/-! TEXTS: what length() and charAt(i) of a String constant answer, walked through the JDK's own code. -/
abbrev tx_nlen : MethodName := ⟨"java/lang/String", "length", "()I"⟩
abbrev tx_nch : MethodName := ⟨"java/lang/String", "charAt", "(I)C"⟩
abbrev tx_nco : MethodName := ⟨"java/lang/String", "coder", "()B"⟩
abbrev tx_nla : MethodName := ⟨"java/lang/String", "isLatin1", "()Z"⟩
abbrev tx_nck : MethodName := ⟨"java/lang/String", "checkIndex", "(II)V"⟩
abbrev tx_nlc : MethodName := ⟨"java/lang/StringLatin1", "charAt", "([BI)C"⟩
abbrev tx_npc : MethodName := ⟨"jdk/internal/util/Preconditions", "checkIndex", "(IILjava/util/function/BiFunction;)I"⟩
set_option maxRecDepth 100000 in
theorem tx_cnlen : Cond.code tx_nlen prog_21_method_54_code 1 (some .int) ∈ tb_GT := tb_w_ok (x := (5, 131)) (by decide +kernel)
set_option maxRecDepth 100000 in
theorem tx_cnch : Cond.code tx_nch prog_21_method_56_code 2 (some .char) ∈ tb_GT := tb_w_ok (x := (5, 141)) (by decide +kernel)
set_option maxRecDepth 100000 in
theorem tx_cnco : Cond.code tx_nco prog_21_method_152_code 1 (some .byte) ∈ tb_GT := tb_w_ok (x := (5, 135)) (by decide +kernel)
set_option maxRecDepth 100000 in
theorem tx_cnla : Cond.code tx_nla prog_21_method_154_code 1 (some .boolean) ∈ tb_GT := tb_w_ok (x := (5, 145)) (by decide +kernel)
set_option maxRecDepth 100000 in
theorem tx_cnck : Cond.code tx_nck prog_21_method_155_code 2 none ∈ tb_GT := tb_w_ok (x := (5, 151)) (by decide +kernel)
set_option maxRecDepth 100000 in
theorem tx_cnlc : Cond.code tx_nlc prog_22_method_2_code 2 (some .char) ∈ tb_GT := tb_w_ok (x := (5, 148)) (by decide +kernel)
set_option maxRecDepth 100000 in
theorem tx_cnpc : Cond.code tx_npc prog_26_method_11_code 3 (some .int) ∈ tb_GT := tb_w_ok (x := (5, 156)) (by decide +kernel)
set_option maxRecDepth 100000 in
theorem tx_inlen : Cond.instanceMethod tx_nlen ∈ tb_GT := tb_w_ok (x := (5, 129)) (by decide +kernel)
set_option maxRecDepth 100000 in
theorem tx_snlen : Cond.selects "java/lang/String" tx_nlen tx_nlen ∈ tb_GT := tb_w_ok (x := (5, 130)) (by decide +kernel)
set_option maxRecDepth 100000 in
theorem tx_inch : Cond.instanceMethod tx_nch ∈ tb_GT := tb_w_ok (x := (5, 139)) (by decide +kernel)
set_option maxRecDepth 100000 in
theorem tx_snch : Cond.selects "java/lang/String" tx_nch tx_nch ∈ tb_GT := tb_w_ok (x := (5, 140)) (by decide +kernel)
set_option maxRecDepth 100000 in
theorem tx_inco : Cond.instanceMethod tx_nco ∈ tb_GT := tb_w_ok (x := (5, 133)) (by decide +kernel)
set_option maxRecDepth 100000 in
theorem tx_snco : Cond.selects "java/lang/String" tx_nco tx_nco ∈ tb_GT := tb_w_ok (x := (5, 134)) (by decide +kernel)
set_option maxRecDepth 100000 in
theorem tx_inla : Cond.instanceMethod tx_nla ∈ tb_GT := tb_w_ok (x := (5, 143)) (by decide +kernel)
set_option maxRecDepth 100000 in
theorem tx_snla : Cond.selects "java/lang/String" tx_nla tx_nla ∈ tb_GT := tb_w_ok (x := (5, 144)) (by decide +kernel)
set_option maxRecDepth 100000 in
theorem tx_tnck : Cond.static tx_nck ∈ tb_GT := tb_w_ok (x := (5, 150)) (by decide +kernel)
set_option maxRecDepth 100000 in
theorem tx_tnlc : Cond.static tx_nlc ∈ tb_GT := tb_w_ok (x := (5, 147)) (by decide +kernel)
set_option maxRecDepth 100000 in
theorem tx_tnpc : Cond.static tx_npc ∈ tb_GT := tb_w_ok (x := (5, 155)) (by decide +kernel)
set_option maxRecDepth 100000 in
theorem tx_iS : Cond.initialized "java/lang/String" ∈ tb_GT := tb_w_ok (x := (1, 22)) (by decide +kernel)
set_option maxRecDepth 100000 in
theorem tx_iL : Cond.initialized "java/lang/StringLatin1" ∈ tb_GT := tb_w_ok (x := (1, 23)) (by decide +kernel)
set_option maxRecDepth 100000 in
theorem tx_iP : Cond.initialized "jdk/internal/util/Preconditions" ∈ tb_GT := tb_w_ok (x := (1, 24)) (by decide +kernel)
set_option maxRecDepth 100000 in
theorem tx_llen : Cond.methodLink "Specialiser$Printer" 68 tx_nlen ∈ tb_GT := tb_w_ok (x := (5, 128)) (by decide +kernel)
set_option maxRecDepth 100000 in
theorem tx_lch : Cond.methodLink "Specialiser$Printer" 72 tx_nch ∈ tb_GT := tb_w_ok (x := (5, 138)) (by decide +kernel)
set_option maxRecDepth 100000 in
theorem tx_lco : Cond.methodLink "java/lang/String" 335 tx_nco ∈ tb_GT := tb_w_ok (x := (5, 132)) (by decide +kernel)
set_option maxRecDepth 100000 in
theorem tx_lla : Cond.methodLink "java/lang/String" 492 tx_nla ∈ tb_GT := tb_w_ok (x := (5, 142)) (by decide +kernel)
set_option maxRecDepth 100000 in
theorem tx_llc : Cond.methodLink "java/lang/String" 495 tx_nlc ∈ tb_GT := tb_w_ok (x := (5, 146)) (by decide +kernel)
set_option maxRecDepth 100000 in
theorem tx_lck : Cond.methodLink "java/lang/StringLatin1" 9 tx_nck ∈ tb_GT := tb_w_ok (x := (5, 149)) (by decide +kernel)
set_option maxRecDepth 100000 in
theorem tx_lpc : Cond.methodLink "java/lang/String" 1059 tx_npc ∈ tb_GT := tb_w_ok (x := (5, 154)) (by decide +kernel)
set_option maxRecDepth 100000 in
theorem tx_fCS : Cond.fieldLink "java/lang/String" 38 "java/lang/String" "COMPACT_STRINGS" "Z" ∈ tb_GT := tb_w_ok (x := (5, 136)) (by decide +kernel)
set_option maxRecDepth 100000 in
theorem tx_fCo : Cond.fieldLink "java/lang/String" 15 "java/lang/String" "coder" "B" ∈ tb_GT := tb_w_ok (x := (8, 123)) (by decide +kernel)
set_option maxRecDepth 100000 in
theorem tx_fVa : Cond.fieldLink "java/lang/String" 9 "java/lang/String" "value" "[B" ∈ tb_GT := tb_w_ok (x := (8, 122)) (by decide +kernel)
set_option maxRecDepth 100000 in
theorem tx_fSI : Cond.fieldLink "java/lang/String" 1053 "jdk/internal/util/Preconditions" "SIOOBE_FORMATTER" "Ljava/util/function/BiFunction;" ∈ tb_GT := tb_w_ok (x := (5, 152)) (by decide +kernel)
set_option maxRecDepth 100000 in
theorem tx_yCS : Cond.laysStatic "java/lang/String" "COMPACT_STRINGS" "Z" ∈ lw_tbl := tb_tab_in 5 _ (List.mem_of_getElem? (i := 137) (by decide +kernel))
set_option maxRecDepth 100000 in
theorem tx_ySI : Cond.laysStatic "jdk/internal/util/Preconditions" "SIOOBE_FORMATTER" "Ljava/util/function/BiFunction;" ∈ lw_tbl := tb_tab_in 5 _ (List.mem_of_getElem? (i := 153) (by decide +kernel))
set_option maxRecDepth 100000 in
theorem tx_jS : Cond.initialized "java/lang/String" ∈ lw_tbl := tb_tab_in 1 _ (List.mem_of_getElem? (i := 22) (by decide +kernel))
set_option maxRecDepth 100000 in
theorem tx_jP : Cond.initialized "jdk/internal/util/Preconditions" ∈ lw_tbl := tb_tab_in 1 _ (List.mem_of_getElem? (i := 24) (by decide +kernel))
/-- what is said of a text: its cell, its coder, its bytes -/
def tx_one (B a : Nat) (bs : List Nat) (U : State) (H : Heap) : Prop :=
  ∃ v : Nat, va_O "java/lang/String" a (fun q => B ≤ q) U H ∧ va_OF "java/lang/String" "coder" "B" (.int 0) a (fun q => B ≤ q) U H ∧ va_OF "java/lang/String" "value" "[B" (.ref v) a (fun q => B ≤ q) U H ∧ va_T .byte v bs.length (fun j => .int (nI (bs.getD j 0))) (fun q => B ≤ q) U H
def tx_Z (B : Nat) (U : State) (H : Heap) : Prop := va_Z "java/lang/String" "COMPACT_STRINGS" "Z" (.int 1) (fun q => B ≤ q) U H ∧ va_Zq "jdk/internal/util/Preconditions" "SIOOBE_FORMATTER" "Ljava/util/function/BiFunction;" (fun q => B ≤ q) U H
theorem tx_one.next {B a : Nat} {bs : List Nat} {u U : State} {H H1 : Heap} (h : tx_one B a bs u H) (hvm : u.vm.Alike U.vm) (hq : ∀ a : Nat, a < H.size → ¬ B ≤ a → H1[a]? = H[a]?) : tx_one B a bs U H1 := by
  obtain ⟨v, h1, h2, h3, h4⟩ := h
  exact ⟨v, va_O.moved hvm (h1.kept hq), va_OF.moved hvm (h2.kept hq), va_OF.moved hvm (h3.kept hq), va_T.moved hvm (h4.kept hq)⟩
theorem tx_Z.next {B : Nat} {u U : State} {H H1 : Heap} (h : tx_Z B u H) (hvm : u.vm.Alike U.vm) (hq : ∀ a : Nat, a < H.size → ¬ B ≤ a → H1[a]? = H[a]?) : tx_Z B U H1 :=
  ⟨va_Z.moved hvm (h.1.kept hq), va_Zq.moved hvm (h.2.kept hq)⟩
def tx_ZT (f : Nat → Nat) (B : Nat) (U : State) : Prop := tx_Z B U U.heap ∧ ∀ t : Nat, tx_one B (f (t + 1)) (tb_txt.getD t []) U U.heap
theorem tx_sta (f : Nat → Nat) (B : Nat) : mi_sta B (tx_ZT f B) := by
  intro s U H locs h hS hU hW
  refine ⟨?_, fun t => ?_⟩
  · rw [hU]; exact h.1.next hW.alike hS.2.1
  · rw [hU]; exact (h.2 t).next hW.alike hS.2.1
def tx_ws (y : MethodName) (bytes : ByteArray) (maxL : Nat) (ret : Option FieldType) : List Cond := Cond.code y bytes maxL ret :: tb_GT
def tx_rm (k : Nat) : Room := { frames := k + 1, cells := 0, slots := 0, locals := 40 * (k + 1) }
def tx_Q (r : Option Value) : Array Value → State → Outcome → State → Prop := fun _ st oc t => oc = .returned r ∧ t.heap = st.heap
def tx_X : String → State → State → Prop := fun _ _ _ => False
def tx_P (B a : Nat) (bs : List Nat) (as : List Value) : Array Value → State → Prop := fun v U => v = as.toArray ∧ tx_Z B U U.heap ∧ tx_one B a bs U U.heap
def tx_PZ (B : Nat) (as : List Value) : Array Value → State → Prop := fun v U => v = as.toArray ∧ tx_Z B U U.heap
def tx_P0 (as : List Value) : Array Value → State → Prop := fun v _ => v = as.toArray
theorem tx_P_blind (B a : Nat) (bs : List Nat) (as : List Value) : FrameBlind (tx_P B a bs as) := by
  intro v U g mk h
  exact ⟨h.1, h.2.1.next (u := U) (U := U.calling g mk v) (Vm.Alike.refl U.vm) (fun _ _ _ => rfl), h.2.2.next (u := U) (U := U.calling g mk v) (Vm.Alike.refl U.vm) (fun _ _ _ => rfl)⟩
theorem tx_PZ_blind (B : Nat) (as : List Value) : FrameBlind (tx_PZ B as) := by
  intro v U g mk h
  exact ⟨h.1, h.2.next (u := U) (U := U.calling g mk v) (Vm.Alike.refl U.vm) (fun _ _ _ => rfl)⟩
theorem tx_P0_blind (as : List Value) : FrameBlind (tx_P0 as) := fun _ _ _ _ h => h
abbrev tx_Met (l : Launch) (y : MethodName) (bytes : ByteArray) (maxL : Nat) (ret : Option FieldType) (k : Nat) (Pc : Array Value → State → Prop) (r : Option Value) : Prop :=
  vx_Met l y (tx_ws y bytes maxL ret) (tx_rm k) Pc (tx_Q r) tx_X 0 0 (fun _ => False)
theorem tx_wsok {y : MethodName} {bytes : ByteArray} {maxL : Nat} {ret : Option FieldType} {s : State} {args : Array Value} (hts : ∀ w ∈ tb_GT, w.before args s = true) (hc : Cond.code y bytes maxL ret ∈ tb_GT) : ∀ w ∈ tx_ws y bytes maxL ret, ∀ (a' : Array Value) (U : State), s.WarmedH U.vm → w.before a' U = true := by
  intro w hw a' U hW
  have hw : w ∈ tb_GT := by
    rcases List.mem_cons.mp hw with h | h
    · rw [h]; exact hc
    · exact h
  exact mi_wk_ok (tb_ok.2.2.1 w hw) hW (hts w hw)
section TxCall
variable {p : Program} {l : Launch} {e : Env} {R : Room} {s : State} {m : MethodId} {args : Array Value} {below : List Frame} {meth : Method} {c : Code} {H : Heap} {locs : List Loc} {cells slots : Nat} {Q : State → Prop}
variable {pc : Nat} {ls : Array Slot}
theorem tx_cb {own : String} {ix : Nat} {y : MethodName} {bytes : ByteArray} {maxL k n : Nat} {ret : Option FieldType} (hts : ∀ w ∈ tb_GT, w.before args s = true) (hf : k + 1 + 1 ≤ R.frames) (hlo : 8 + (maxL + 11) + 40 * (k + 1) ≤ R.locals) (hc : Cond.code y bytes maxL ret ∈ tb_GT) (hini : Cond.initialized y.cls ∈ tb_GT)
    (hMH : y.cls ≠ "java/lang/invoke/MethodHandle" ∧ y.cls ≠ "java/lang/invoke/VarHandle") (hd : (parseMethodDescriptor y.desc).map (fun d => d.parameters.length) = some n) (hl : Cond.methodLink own ix y ∈ tb_GT) : CallB R s args own ix y bytes maxL ret (tx_ws y bytes maxL ret) (tx_rm k) 0 0 n :=
  ⟨rfl, rfl, hf, hlo, tx_wsok hts hc, List.mem_cons_self, hts _ hc, hts _ hini, hMH, mi_len_of hd, hts _ hl⟩
theorem tx_after {v : Option Value} {a : Array Value} {st0 rest : List Value} (hr : vx_Run p l e R s m args below meth c H locs cells slots 0 0 (F0 m pc ls st0) rest (tx_Q v a) tx_X (fun _ => False))
    (kk : W p l e R s m args below meth c H locs cells slots Q (F0 m (pc + 3) ls (v.toList ++ rest))) : W p l e R s m args below meth c H locs cells slots Q (F0 m pc ls st0) := by
  intro T hT X
  rcases hr T hT X with ⟨v', st₀, t, T', L', h0, X', hL, e1, e2, ⟨hv, hh⟩, st⟩ | ⟨q, st₀, t, T', L', E, ce, h0, X', hL, e1, e2, hx, -⟩
  · cases hv
    have hL0 : L' = [] := List.eq_nil_iff_forall_not_mem.mpr (fun q hq => hL q hq)
    subst hL0
    rw [List.append_nil] at X'
    obtain ⟨t2, a1, b1⟩ := kk T' (by rw [e1, hh, h0]) X'
    exact ⟨t2, st t2 a1, b1⟩
  · exact hx.elim
end TxCall
/-- coder() -/
theorem tx_co (l : Launch) (B a : Nat) (bs : List Nat) : tx_Met l tx_nco prog_21_method_152_code 1 (some .byte) 0 (tx_P B a bs [.ref a]) (some (.int 0)) := by
  refine mi_ofW (cc := prog_21_method_152_code) (maxL := 1) (ret := some .byte) (ws' := tb_GT) (by decide +kernel) rfl ?_
  intro p e s m args below meth c s₁ Bd hml hnone hP
  obtain ⟨rfl, hZ, v, hO, hC, hV, hB⟩ := hP
  have hts : ∀ w ∈ tb_GT, w.before [Value.ref a].toArray s = true := fun w hw => atoms_spec (ws := tx_ws tx_nco prog_21_method_152_code 1 (some .byte)) Bd.pre w (List.mem_cons_of_mem _ hw)
  have hown : s.vm.findClass "java/lang/String" = some m.cls := findClass_of_methodNamed Bd.named
  have hl := lv_entry ([.ref a]) (n := 1) (Nat.le_of_ble_eq_true rfl)
  rw [lg_entry_eq]
  generalize (lg_sl ([.ref a]) ++ List.replicate (1 - (lg_sl ([.ref a])).length) Slot.unset).toArray = ls at hl ⊢
  have l0 : ls[0]? = some (.val (.ref a)) := lv_at hl 0 rfl
  refine vx_ret ?_
  refine va_gets Bd.exec Bd.bytes hZ.1 va_S.rf hown (hts _ tx_fCS) (fun x h => h) (by decide +kernel) ?_
  refine lv_if_eq (off := 10) (tgt := 13) Bd.exec Bd.bytes (by decide +kernel) (by decide) (fun h => absurd h (by decide)) (fun _ => ?_)
  refine lv_aload_n Bd.exec Bd.bytes (by decide +kernel) (show ((0 : Fin 4) : Nat) = 0 from rfl) l0 ?_
  refine vk_getf Bd.exec Bd.bytes hC va_S.rf hown (hts _ tx_fCo) (fun x h => h) (by decide +kernel) ?_
  refine lv_goto (off := 4) (tgt := 14) Bd.exec Bd.bytes (by decide +kernel) (by decide) ?_
  exact W.zret (v := 0) (ty := .byte) Bd.exec Bd.bytes Bd.returns (by decide) (fun t ht _ => ⟨rfl, ht⟩) (fun q hq => by cases hq) (by decide +kernel) Bd.notSynchronized
/-- isLatin1() -/
theorem tx_la (l : Launch) (B a : Nat) (bs : List Nat) : tx_Met l tx_nla prog_21_method_154_code 1 (some .boolean) 0 (tx_P B a bs [.ref a]) (some (.int 1)) := by
  refine mi_ofW (cc := prog_21_method_154_code) (maxL := 1) (ret := some .boolean) (ws' := tb_GT) (by decide +kernel) rfl ?_
  intro p e s m args below meth c s₁ Bd hml hnone hP
  obtain ⟨rfl, hZ, v, hO, hC, hV, hB⟩ := hP
  have hts : ∀ w ∈ tb_GT, w.before [Value.ref a].toArray s = true := fun w hw => atoms_spec (ws := tx_ws tx_nla prog_21_method_154_code 1 (some .boolean)) Bd.pre w (List.mem_cons_of_mem _ hw)
  have hown : s.vm.findClass "java/lang/String" = some m.cls := findClass_of_methodNamed Bd.named
  have hl := lv_entry ([.ref a]) (n := 1) (Nat.le_of_ble_eq_true rfl)
  rw [lg_entry_eq]
  generalize (lg_sl ([.ref a]) ++ List.replicate (1 - (lg_sl ([.ref a])).length) Slot.unset).toArray = ls at hl ⊢
  have l0 : ls[0]? = some (.val (.ref a)) := lv_at hl 0 rfl
  refine vx_ret ?_
  refine va_gets Bd.exec Bd.bytes hZ.1 va_S.rf hown (hts _ tx_fCS) (fun x h => h) (by decide +kernel) ?_
  refine lv_if_eq (off := 14) (tgt := 17) Bd.exec Bd.bytes (by decide +kernel) (by decide) (fun h => absurd h (by decide)) (fun _ => ?_)
  refine lv_aload_n Bd.exec Bd.bytes (by decide +kernel) (show ((0 : Fin 4) : Nat) = 0 from rfl) l0 ?_
  refine vk_getf Bd.exec Bd.bytes hC va_S.rf hown (hts _ tx_fCo) (fun x h => h) (by decide +kernel) ?_
  refine lv_if_ne (off := 7) (tgt := 17) Bd.exec Bd.bytes (by decide +kernel) (by decide) (fun h => absurd rfl h) (fun _ => ?_)
  refine lv_iconst (n := 1) (v := 1) Bd.exec Bd.bytes (by decide +kernel) rfl ?_
  refine lv_goto (off := 4) (tgt := 18) Bd.exec Bd.bytes (by decide +kernel) (by decide) ?_
  exact W.zret (v := 1) (ty := .boolean) Bd.exec Bd.bytes Bd.returns (by decide) (fun t ht _ => ⟨rfl, ht⟩) (fun q hq => by cases hq) (by decide +kernel) Bd.notSynchronized
/-- length() -/
theorem tx_len (l : Launch) (B a : Nat) (bs : List Nat) : tx_Met l tx_nlen prog_21_method_54_code 1 (some .int) 1 (tx_P B a bs [.ref a]) (some (.int (nI bs.length))) := by
  refine mi_ofW (cc := prog_21_method_54_code) (maxL := 1) (ret := some .int) (ws' := tb_GT) (by decide +kernel) rfl ?_
  intro p e s m args below meth c s₁ Bd hml hnone hP
  obtain ⟨rfl, hZ, hT⟩ := hP
  have hT0 := hT
  obtain ⟨v, hO, hC, hV, hB⟩ := hT0
  have hts : ∀ w ∈ tb_GT, w.before [Value.ref a].toArray s = true := fun w hw => atoms_spec (ws := tx_ws tx_nlen prog_21_method_54_code 1 (some .int)) Bd.pre w (List.mem_cons_of_mem _ hw)
  have hown : s.vm.findClass "java/lang/String" = some m.cls := findClass_of_methodNamed Bd.named
  have hl := lv_entry ([.ref a]) (n := 1) (Nat.le_of_ble_eq_true rfl)
  rw [lg_entry_eq]
  generalize (lg_sl ([.ref a]) ++ List.replicate (1 - (lg_sl ([.ref a])).length) Slot.unset).toArray = ls at hl ⊢
  have l0 : ls[0]? = some (.val (.ref a)) := lv_at hl 0 rfl
  refine vx_ret ?_
  refine lv_aload_n Bd.exec Bd.bytes (by decide +kernel) (show ((0 : Fin 4) : Nat) = 0 from rfl) l0 ?_
  refine vk_getf Bd.exec Bd.bytes hV va_S.rf hown (hts _ tx_fVa) (fun x h => h) (by decide +kernel) ?_
  refine va_tlen (v := nI bs.length) Bd.exec Bd.bytes hB va_S.rf rfl (by decide +kernel) ?_
  refine lv_aload_n Bd.exec Bd.bytes (by decide +kernel) (show ((0 : Fin 4) : Nat) = 0 from rfl) l0 ?_
  have S : CallFix p m c prog_21_method_54_code 1 s [Value.ref a].toArray tb_GT "java/lang/String" := ⟨Bd.exec, Bd.bytes, hml, hown, hts⟩
  obtain ⟨cellB, hcB, hoB, hclB, -⟩ := hO
  refine tx_after (vx_runV (C := "java/lang/String") (bytes := prog_21_method_152_code) (maxL := 1) (ret := some .byte) (b := a) (As := []) (n := 0) (rest := [.int (nI bs.length)]) S (tx_co l B a bs) ⟨tx_cb hts (Nat.le_of_ble_eq_true rfl) (Nat.le_of_ble_eq_true rfl) tx_cnco tx_iS (by decide) (by decide +kernel) tx_lco, hts _ tx_inco, hts _ tx_snco⟩
    ⟨tx_P_blind B a bs _, ⟨cellB, hcB, hoB, hclB⟩, fun U hU hW => ⟨rfl, by rw [hU]; exact hZ.next hW.alike (fun _ _ _ => rfl), by rw [hU]; exact hT.next hW.alike (fun _ _ _ => rfl)⟩⟩ rfl rfl hl.1 rfl (Nat.le_of_ble_eq_true rfl) (show decode prog_21_method_54_code 6 = .ok (.invokevirtual 335, 3) from by decide +kernel) ⟨Nat.le_refl _, Nat.le_refl _⟩) ?_
  refine lv_ishr Bd.exec Bd.bytes (by decide +kernel) ?_
  rw [sb_shr0]
  exact W.iret (v := nI bs.length) Bd.exec Bd.bytes Bd.returns (fun t ht _ => ⟨rfl, ht⟩) (fun q hq => by cases hq) (by decide +kernel) Bd.notSynchronized
/-- Preconditions.checkIndex, the index within bounds -/
theorem tx_pc (l : Launch) (i n : Int32) (fm : Value) (hfm : fm = .null ∨ ∃ t, fm = .ref t) (h0 : ¬ i < 0) (h1 : i < n) : tx_Met l tx_npc prog_26_method_11_code 3 (some .int) 0 (tx_P0 [.int i, .int n, fm]) (some (.int i)) := by
  refine mi_ofW (cc := prog_26_method_11_code) (maxL := 3) (ret := some .int) (ws' := tb_GT) (by decide +kernel) rfl ?_
  intro p e s m args below meth c s₁ Bd hml hnone hP
  have hP : args = [.int i, .int n, fm].toArray := hP
  subst hP
  have hl := lv_entry ([.int i, .int n, fm]) (n := 3) (by rcases hfm with rfl | ⟨t, rfl⟩ <;> exact Nat.le_of_ble_eq_true rfl)
  rw [lg_entry_eq]
  generalize (lg_sl ([.int i, .int n, fm]) ++ List.replicate (3 - (lg_sl ([.int i, .int n, fm])).length) Slot.unset).toArray = ls at hl ⊢
  have l0 : ls[0]? = some (.val (.int i)) := lv_at hl 0 rfl
  have l1 : ls[1]? = some (.val (.int n)) := lv_at hl 1 rfl
  refine vx_ret ?_
  refine lv_iload_n Bd.exec Bd.bytes (by decide +kernel) (show ((0 : Fin 4) : Nat) = 0 from rfl) l0 ?_
  refine lv_if_lt (off := 8) (tgt := 9) Bd.exec Bd.bytes (by decide +kernel) (by decide) (fun h => absurd h h0) (fun _ => ?_)
  refine lv_iload_n Bd.exec Bd.bytes (by decide +kernel) (show ((0 : Fin 4) : Nat) = 0 from rfl) l0 ?_
  refine lv_iload_n Bd.exec Bd.bytes (by decide +kernel) (show ((1 : Fin 4) : Nat) = 1 from rfl) l1 ?_
  refine lv_icmp_lt (off := 10) (tgt := 16) Bd.exec Bd.bytes (by decide +kernel) (by decide) (fun _ => ?_) (fun h => absurd h1 h)
  refine lv_iload_n Bd.exec Bd.bytes (by decide +kernel) (show ((0 : Fin 4) : Nat) = 0 from rfl) l0 ?_
  exact W.iret (v := i) Bd.exec Bd.bytes Bd.returns (fun t ht _ => ⟨rfl, ht⟩) (fun q hq => by cases hq) (by decide +kernel) Bd.notSynchronized
/-- String.checkIndex, the index within bounds -/
theorem tx_ck (l : Launch) (B : Nat) (i n : Int32) (h0 : ¬ i < 0) (h1 : i < n) : tx_Met l tx_nck prog_21_method_155_code 2 none 1 (tx_PZ B [.int i, .int n]) none := by
  refine mi_ofW (cc := prog_21_method_155_code) (maxL := 2) (ret := none) (ws' := tb_GT) (by decide +kernel) rfl ?_
  intro p e s m args below meth c s₁ Bd hml hnone hP
  obtain ⟨rfl, hZ⟩ := hP
  have hts : ∀ w ∈ tb_GT, w.before [Value.int i, Value.int n].toArray s = true := fun w hw => atoms_spec (ws := tx_ws tx_nck prog_21_method_155_code 2 none) Bd.pre w (List.mem_cons_of_mem _ hw)
  have hown : s.vm.findClass "java/lang/String" = some m.cls := findClass_of_methodNamed Bd.named
  have hl := lv_entry ([.int i, .int n]) (n := 2) (Nat.le_of_ble_eq_true rfl)
  rw [lg_entry_eq]
  generalize (lg_sl ([.int i, .int n]) ++ List.replicate (2 - (lg_sl ([.int i, .int n])).length) Slot.unset).toArray = ls at hl ⊢
  have l0 : ls[0]? = some (.val (.int i)) := lv_at hl 0 rfl
  have l1 : ls[1]? = some (.val (.int n)) := lv_at hl 1 rfl
  refine vx_ret ?_
  refine lv_iload_n Bd.exec Bd.bytes (by decide +kernel) (show ((0 : Fin 4) : Nat) = 0 from rfl) l0 ?_
  refine lv_iload_n Bd.exec Bd.bytes (by decide +kernel) (show ((1 : Fin 4) : Nat) = 1 from rfl) l1 ?_
  have S : CallFix p m c prog_21_method_155_code 2 s [Value.int i, Value.int n].toArray tb_GT "java/lang/String" := ⟨Bd.exec, Bd.bytes, hml, hown, hts⟩
  have go : ∀ fm : Value, (fm = .null ∨ ∃ t, fm = .ref t) → va_Z "jdk/internal/util/Preconditions" "SIOOBE_FORMATTER" "Ljava/util/function/BiFunction;" fm (fun q => B ≤ q) s s.heap → W p l e (headSpec (tx_ws tx_nck prog_21_method_155_code 2 none) (tx_rm 1)).room s m [Value.int i, Value.int n].toArray below meth c s.heap [] 0 0 (MQ below (tx_Q none) [Value.int i, Value.int n].toArray s 0 0 (fun _ => False)) (F0 m (0 + 1 + 1) ls [.int n, .int i]) := by
    intro fm hfm hz
    refine va_gets Bd.exec Bd.bytes hz va_S.rf hown (hts _ tx_fSI) (fun x h => h) (by decide +kernel) ?_
    refine tx_after (vx_runS (bytes := prog_26_method_11_code) (maxL := 3) (ret := some .int) (As := [.int i, .int n, fm]) (n := 3) (rest := []) S (tx_pc l i n fm hfm h0 h1) ⟨tx_cb hts (Nat.le_of_ble_eq_true rfl) (Nat.le_of_ble_eq_true rfl) tx_cnpc tx_iP (by decide) (by decide +kernel) tx_lpc, hts _ tx_tnpc⟩
      ⟨tx_P0_blind _, fun U hU hW => rfl⟩ rfl rfl hl.1 rfl (Nat.le_of_ble_eq_true rfl) (show decode prog_21_method_155_code 5 = .ok (.invokestatic 1059, 3) from by decide +kernel) ⟨Nat.le_refl _, Nat.le_refl _⟩) ?_
    refine lv_pop (va := .int i) Bd.exec Bd.bytes (by decide +kernel) rfl ?_
    exact W.vret Bd.exec Bd.bytes Bd.returns (fun t ht _ => ⟨rfl, ht⟩) (fun q hq => by cases hq) (by decide +kernel) Bd.notSynchronized
  rcases hZ.2 with hz | ⟨t, hz⟩
  · exact go _ (Or.inl rfl) hz
  · exact go _ (Or.inr ⟨t, rfl⟩) hz
theorem tx_and {n : Nat} (h : n < 256) : nI n &&& 255 = nI n := by
  rw [pk_andN (by omega) 8 (by decide), Nat.mod_eq_of_lt (by omega)]
theorem tx_chr {n : Nat} (h : n < 256) : ((nI n).toUInt32 % 65536).toInt32 = nI n := by
  rw [pk_char, pk_tn (by omega), Nat.mod_eq_of_lt (by omega)]
/-- StringLatin1.charAt, the index within bounds -/
theorem tx_lc (l : Launch) (B v : Nat) (bs : List Nat) (hbs : ∀ j, bs.getD j 0 < 256) (j : Nat) (hj : j < bs.length) (hn : bs.length < 2 ^ 31) : tx_Met l tx_nlc prog_22_method_2_code 2 (some .char) 2 (fun w U => w = [Value.ref v, Value.int (nI j)].toArray ∧ tx_Z B U U.heap ∧ va_T .byte v bs.length (fun j => .int (nI (bs.getD j 0))) (fun q => B ≤ q) U U.heap) (some (.int (nI (bs.getD j 0)))) := by
  refine mi_ofW (cc := prog_22_method_2_code) (maxL := 2) (ret := some .char) (ws' := tb_GT) (by decide +kernel) rfl ?_
  intro p e s m args below meth c s₁ Bd hml hnone hP
  obtain ⟨rfl, hZ, hB⟩ := hP
  have hts : ∀ w ∈ tb_GT, w.before [Value.ref v, Value.int (nI j)].toArray s = true := fun w hw => atoms_spec (ws := tx_ws tx_nlc prog_22_method_2_code 2 (some .char)) Bd.pre w (List.mem_cons_of_mem _ hw)
  have hown : s.vm.findClass "java/lang/StringLatin1" = some m.cls := findClass_of_methodNamed Bd.named
  have hl := lv_entry ([.ref v, .int (nI j)]) (n := 2) (Nat.le_of_ble_eq_true rfl)
  rw [lg_entry_eq]
  generalize (lg_sl ([.ref v, .int (nI j)]) ++ List.replicate (2 - (lg_sl ([.ref v, .int (nI j)])).length) Slot.unset).toArray = ls at hl ⊢
  have l0 : ls[0]? = some (.val (.ref v)) := lv_at hl 0 rfl
  have l1 : ls[1]? = some (.val (.int (nI j))) := lv_at hl 1 rfl
  have S : CallFix p m c prog_22_method_2_code 2 s [Value.ref v, Value.int (nI j)].toArray tb_GT "java/lang/StringLatin1" := ⟨Bd.exec, Bd.bytes, hml, hown, hts⟩
  refine vx_ret ?_
  refine lv_iload_n Bd.exec Bd.bytes (by decide +kernel) (show ((1 : Fin 4) : Nat) = 1 from rfl) l1 ?_
  refine lv_aload_n Bd.exec Bd.bytes (by decide +kernel) (show ((0 : Fin 4) : Nat) = 0 from rfl) l0 ?_
  refine va_tlen (v := nI bs.length) Bd.exec Bd.bytes hB va_S.rf rfl (by decide +kernel) ?_
  refine tx_after (vx_runS (bytes := prog_21_method_155_code) (maxL := 2) (ret := none) (As := [.int (nI j), .int (nI bs.length)]) (n := 2) (rest := []) S (tx_ck l B (nI j) (nI bs.length) (nI_pos (by omega)) (nI_lt hj hn)) ⟨tx_cb hts (Nat.le_of_ble_eq_true rfl) (Nat.le_of_ble_eq_true rfl) tx_cnck tx_iS (by decide) (by decide +kernel) tx_lck, hts _ tx_tnck⟩
    ⟨tx_PZ_blind B _, fun U hU hW => ⟨rfl, by rw [hU]; exact hZ.next hW.alike (fun _ _ _ => rfl)⟩⟩ rfl rfl hl.1 rfl (Nat.le_of_ble_eq_true rfl) (show decode prog_22_method_2_code 3 = .ok (.invokestatic 9, 3) from by decide +kernel) ⟨Nat.le_refl _, Nat.le_refl _⟩) ?_
  refine lv_aload_n Bd.exec Bd.bytes (by decide +kernel) (show ((0 : Fin 4) : Nat) = 0 from rfl) l0 ?_
  refine lv_iload_n Bd.exec Bd.bytes (by decide +kernel) (show ((1 : Fin 4) : Nat) = 1 from rfl) l1 ?_
  refine va_tb (v := .int (nI (bs.getD j 0))) Bd.exec Bd.bytes hB va_S.rf (vp_in_nI hj hn) (by rw [nI_clamp (by omega)]) (by decide +kernel) ?_
  refine lv_sipush (n := 255) (v := 255) Bd.exec Bd.bytes (by decide +kernel) rfl ?_
  refine lv_iand Bd.exec Bd.bytes (by decide +kernel) ?_
  rw [tx_and (hbs j)]
  refine lv_i2c (v := nI (bs.getD j 0)) Bd.exec Bd.bytes (by decide +kernel) (tx_chr (hbs j)) ?_
  exact W.zret (v := nI (bs.getD j 0)) (ty := .char) Bd.exec Bd.bytes Bd.returns (pk_charN (Nat.lt_trans (hbs j) (by decide))).1 (fun t ht _ => ⟨rfl, ht⟩) (fun q hq => by cases hq) (by decide +kernel) Bd.notSynchronized
/-- charAt, the index within bounds -/
theorem tx_ch (l : Launch) (B a : Nat) (bs : List Nat) (hbs : ∀ j, bs.getD j 0 < 256) (j : Nat) (hj : j < bs.length) (hn : bs.length < 2 ^ 31) : tx_Met l tx_nch prog_21_method_56_code 2 (some .char) 3 (tx_P B a bs [.ref a, .int (nI j)]) (some (.int (nI (bs.getD j 0)))) := by
  refine mi_ofW (cc := prog_21_method_56_code) (maxL := 2) (ret := some .char) (ws' := tb_GT) (by decide +kernel) rfl ?_
  intro p e s m args below meth c s₁ Bd hml hnone hP
  obtain ⟨rfl, hZ, hT⟩ := hP
  have hT0 := hT
  obtain ⟨v, hO, hC, hV, hB⟩ := hT0
  have hts : ∀ w ∈ tb_GT, w.before [Value.ref a, Value.int (nI j)].toArray s = true := fun w hw => atoms_spec (ws := tx_ws tx_nch prog_21_method_56_code 2 (some .char)) Bd.pre w (List.mem_cons_of_mem _ hw)
  have hown : s.vm.findClass "java/lang/String" = some m.cls := findClass_of_methodNamed Bd.named
  have hl := lv_entry ([.ref a, .int (nI j)]) (n := 2) (Nat.le_of_ble_eq_true rfl)
  rw [lg_entry_eq]
  generalize (lg_sl ([.ref a, .int (nI j)]) ++ List.replicate (2 - (lg_sl ([.ref a, .int (nI j)])).length) Slot.unset).toArray = ls at hl ⊢
  have l0 : ls[0]? = some (.val (.ref a)) := lv_at hl 0 rfl
  have l1 : ls[1]? = some (.val (.int (nI j))) := lv_at hl 1 rfl
  have S : CallFix p m c prog_21_method_56_code 2 s [Value.ref a, Value.int (nI j)].toArray tb_GT "java/lang/String" := ⟨Bd.exec, Bd.bytes, hml, hown, hts⟩
  obtain ⟨cellB, hcB, hoB, hclB, -⟩ := hO
  refine vx_ret ?_
  refine lv_aload_n Bd.exec Bd.bytes (by decide +kernel) (show ((0 : Fin 4) : Nat) = 0 from rfl) l0 ?_
  refine tx_after (vx_runV (C := "java/lang/String") (bytes := prog_21_method_154_code) (maxL := 1) (ret := some .boolean) (b := a) (As := []) (n := 0) (rest := []) S (tx_la l B a bs) ⟨tx_cb hts (Nat.le_of_ble_eq_true rfl) (Nat.le_of_ble_eq_true rfl) tx_cnla tx_iS (by decide) (by decide +kernel) tx_lla, hts _ tx_inla, hts _ tx_snla⟩
    ⟨tx_P_blind B a bs _, ⟨cellB, hcB, hoB, hclB⟩, fun U hU hW => ⟨rfl, by rw [hU]; exact hZ.next hW.alike (fun _ _ _ => rfl), by rw [hU]; exact hT.next hW.alike (fun _ _ _ => rfl)⟩⟩ rfl rfl hl.1 rfl (Nat.le_of_ble_eq_true rfl) (show decode prog_21_method_56_code 1 = .ok (.invokevirtual 492, 3) from by decide +kernel) ⟨Nat.le_refl _, Nat.le_refl _⟩) ?_
  refine lv_if_eq (off := 12) (tgt := 16) Bd.exec Bd.bytes (by decide +kernel) (by decide) (fun h => absurd h (by decide)) (fun _ => ?_)
  refine lv_aload_n Bd.exec Bd.bytes (by decide +kernel) (show ((0 : Fin 4) : Nat) = 0 from rfl) l0 ?_
  refine vk_getf Bd.exec Bd.bytes hV va_S.rf hown (hts _ tx_fVa) (fun x h => h) (by decide +kernel) ?_
  refine lv_iload_n Bd.exec Bd.bytes (by decide +kernel) (show ((1 : Fin 4) : Nat) = 1 from rfl) l1 ?_
  refine tx_after (vx_runS (bytes := prog_22_method_2_code) (maxL := 2) (ret := some .char) (As := [.ref v, .int (nI j)]) (n := 2) (rest := []) S (tx_lc l B v bs hbs j hj hn) ⟨tx_cb hts (Nat.le_of_ble_eq_true rfl) (Nat.le_of_ble_eq_true rfl) tx_cnlc tx_iL (by decide) (by decide +kernel) tx_llc, hts _ tx_tnlc⟩
    ⟨fun w U g mk h => ⟨h.1, h.2.1.next (u := U) (U := U.calling g mk w) (Vm.Alike.refl U.vm) (fun _ _ _ => rfl), va_T.moved (u := U) (U := U.calling g mk w) (Vm.Alike.refl U.vm) h.2.2⟩, fun U hU hW => ⟨rfl, by rw [hU]; exact hZ.next hW.alike (fun _ _ _ => rfl), by rw [hU]; exact va_T.moved hW.alike hB⟩⟩ rfl rfl hl.1 rfl (Nat.le_of_ble_eq_true rfl) (show decode prog_21_method_56_code 12 = .ok (.invokestatic 495, 3) from by decide +kernel) ⟨Nat.le_refl _, Nat.le_refl _⟩) ?_
  exact W.zret (v := nI (bs.getD j 0)) (ty := .char) Bd.exec Bd.bytes Bd.returns (pk_charN (Nat.lt_trans (hbs j) (by decide))).1 (fun t ht _ => ⟨rfl, ht⟩) (fun q hq => by cases hq) (by decide +kernel) Bd.notSynchronized
set_option maxRecDepth 100000 in
theorem tx_site : (List.range tb_nM).all (fun j => (tb_i (tb_k.getD j 99)).all (fun q => !(q.2.2.1 == 6) || ((q == (68, 1000, 6, 0) || q == (72, 1001, 6, 1)) && decide ((mi_nm tb_P j).cls = "Specialiser$Printer")))) = true := by decide +kernel
set_option maxRecDepth 100000 in
theorem tx_small : tb_txt.all (fun l => decide (l.length < 256) && l.all (fun n => decide (n < 256))) = true := by decide +kernel
theorem tx_bs (t : Nat) : (tb_txt.getD t []).length < 256 ∧ ∀ j, (tb_txt.getD t []).getD j 0 < 256 := by
  rw [List.getD_eq_getElem?_getD]
  cases h : tb_txt[t]? with
  | none => exact ⟨by decide, fun j => by simp⟩
  | some l =>
    have h1 := List.all_eq_true.mp tx_small l (List.mem_of_getElem? h)
    rw [Bool.and_eq_true, decide_eq_true_eq] at h1
    refine ⟨h1.1, fun j => ?_⟩
    show l.getD j 0 < 256
    rw [List.getD_eq_getElem?_getD]
    cases h2 : l[j]? with
    | none => decide
    | some n => exact of_decide_eq_true (List.all_eq_true.mp h1.2 n (List.mem_of_getElem? h2))
set_option maxHeartbeats 1000000 in
theorem tx_prim (f : Nat → Nat) (B : Nat) : mi_prim f B tb_GT tb_P (tx_ZT f B) := by
  intro p l e R s m args below meth c Q j ix k n t pc as r v ls H locs cells slots hx hb hml hown hts hZ hS hfr hlo hcl hsl hiv hlen hpr hw hd kk
  have hin : (ix, k, 6, n) ∈ tb_i (tb_k.getD j 99) := tb_lk hiv
  have hj : j < tb_nM := by
    rcases Nat.lt_or_ge j tb_nM with z | z
    · exact z
    · rw [(tb_beyond j z).1] at hin
      cases hin
  have h1 := List.all_eq_true.mp (List.all_eq_true.mp tx_site j (List.mem_range.mpr hj)) _ hin
  simp only [beq_self_eq_true, Bool.not_true, Bool.false_or, Bool.and_eq_true, Bool.or_eq_true, beq_iff_eq, decide_eq_true_eq, Prod.mk.injEq] at h1
  obtain ⟨hq, hcls⟩ := h1
  rw [hcls] at hown
  have hT := (hZ.2 t).next (U := s) (Vm.Alike.refl s.vm) hS.2.1
  have hZ0 := hZ.1.next (U := s) (Vm.Alike.refl s.vm) hS.2.1
  have hT0 := hT
  obtain ⟨a1, hO, -⟩ := hT0
  obtain ⟨cellB, hcB, hoB, hclB, -⟩ := hO
  have hW8 : 2 * (0 : Nat) + ((r.map (mi_v f B)).map fun v => v.category).sum ≤ 8 := by rw [mi_cats]; omega
  have S : CallFix p m c (mi_cd tb_P j) ls.size s args tb_GT "Specialiser$Printer" := ⟨hx, hb, hml, hown, hts⟩
  have hpre : ∀ as : List Value, ∀ U : State, U.heap = H → s.WarmedH U.vm → tx_P B (f (t + 1)) (tb_txt.getD t []) as as.toArray U := fun as U hU hW => ⟨rfl, by rw [hU]; exact hZ0.next hW.alike (fun _ _ _ => rfl), by rw [hU]; exact hT.next hW.alike (fun _ _ _ => rfl)⟩
  obtain ⟨hb1, hb2⟩ := tx_bs t
  rcases hq with ⟨rfl, rfl, -, rfl⟩ | ⟨rfl, rfl, -, rfl⟩
  · have has : as = [] := List.length_eq_zero_iff.mp hlen
    subst has
    have hv : v = .int (nI (tb_txt.getD t []).length) := by
      have hpr : (if (1000 : Nat) = 1000 then some (Value.int (nI (tb_txt.getD t []).length)) else none) = some v := hpr
      rw [if_pos rfl] at hpr
      exact (Option.some.inj hpr).symm
    subst hv
    exact tx_after (vx_runV (C := "java/lang/String") (bytes := prog_21_method_54_code) (maxL := 1) (ret := some .int) (b := f (t + 1)) (As := []) (n := 0) (rest := r.map (mi_v f B)) S (tx_len l B (f (t + 1)) (tb_txt.getD t [])) ⟨tx_cb hts (by omega) (by omega) tx_cnlen tx_iS (by decide) (by decide +kernel) tx_llen, hts _ tx_inlen, hts _ tx_snlen⟩
      ⟨tx_P_blind _ _ _ _, ⟨cellB, hcB, hoB, hclB⟩, hpre _⟩ rfl rfl rfl rfl hW8 hd ⟨hcl, hsl⟩) kk
  · obtain ⟨x, rfl⟩ := List.length_eq_one_iff.mp hlen
    cases x with
    | int i =>
      have hpr : (if (1001 : Nat) = 1001 ∧ ¬ (i < 0 ∨ (tb_txt.getD t []).length ≤ i.toNatClampNeg) then some (Value.int (nI ((tb_txt.getD t []).getD i.toNatClampNeg 0))) else none) = some v := hpr
      split at hpr
      · next hc =>
        obtain ⟨j1, hj1, rfl⟩ := vp_in_of hc.2 (by omega)
        rw [nI_clamp (by omega)] at hpr
        have hv : v = .int (nI ((tb_txt.getD t []).getD j1 0)) := (Option.some.inj hpr).symm
        subst hv
        exact tx_after (vx_runV (C := "java/lang/String") (bytes := prog_21_method_56_code) (maxL := 2) (ret := some .char) (b := f (t + 1)) (As := [.int (nI j1)]) (n := 1) (rest := r.map (mi_v f B)) S (tx_ch l B (f (t + 1)) (tb_txt.getD t []) hb2 j1 hj1 (by omega)) ⟨tx_cb hts (by omega) (by omega) tx_cnch tx_iS (by decide) (by decide +kernel) tx_lch, hts _ tx_inch, hts _ tx_snch⟩
          ⟨tx_P_blind _ _ _ _, ⟨cellB, hcB, hoB, hclB⟩, hpre _⟩ rfl rfl rfl rfl hW8 hd ⟨hcl, hsl⟩) kk
      · cases hpr
    | _ => cases hpr
/-! the texts out of the Statement's words -/
def tx_off : List Nat := [71, 82, 103, 131, 152, 166, 210, 237, 253, 402, 414, 430, 448, 466, 497, 186, 268, 272, 278, 396, 286, 307, 317, 324, 332, 340, 350, 360, 367, 374, 381, 388]
def tx_tm (q : String × Nat × String × Nat) : Term := .string q.1 q.2.1
def tx_fv (q : String × Nat × String × Nat) : Term := .field (tx_tm q) "java/lang/String" "value" "[B"
def tx_wd (q : String × Nat × String × Nat) (bs : List Nat) : List Cond := Cond.exactly (tx_tm q) "java/lang/String" :: Cond.eq (.field (tx_tm q) "java/lang/String" "coder" "B") (.int 0) :: Cond.arrayOf (tx_fv q) .byte :: Cond.eq (.length (tx_fv q)) (.int (Int32.ofNat bs.length)) ::
  (List.range bs.length).map (fun j => Cond.eq (.elem (tx_fv q) (.int (Int32.ofNat j))) (.int (nI (bs.getD j 0))))
set_option maxRecDepth 100000 in
theorem tx_all : tb_SK.all (fun q => decide (((flatC (Jvm.Cond.and given_1 narrow_1)).drop (tx_off.getD q.2.2.2 0)).take ((tb_txt.getD q.2.2.2 []).length + 4) = tx_wd q (tb_txt.getD q.2.2.2 []))) = true := by decide +kernel
set_option maxRecDepth 100000 in
theorem tx_SK : (List.range tb_SK.length).all (fun t => decide (tb_SK[t]?.map (fun q => q.2.2.2) = some t)) = true := by decide +kernel
theorem tx_text {s : State} {A : Array Value} {f : Nat → Nat} (hs : ∀ w ∈ flatC (Jvm.Cond.and given_1 narrow_1), w.before A s = true) {q : String × Nat × String × Nat} (hq : q ∈ tb_SK) (hR : vk_R q.1 q.2.1 q.2.2.1 (f (q.2.2.2 + 1)) s) : tx_one s.heap.size (f (q.2.2.2 + 1)) (tb_txt.getD q.2.2.2 []) s s.heap := by
  have h1 := of_decide_eq_true (List.all_eq_true.mp tx_all q hq)
  have hA : ∀ a : Nat, a < s.heap.size → ¬ (fun q => s.heap.size ≤ q) a := fun a h => Nat.not_le.mpr h
  have hw : ∀ w ∈ tx_wd q (tb_txt.getD q.2.2.2 []), w.before A s = true := fun w h => hs w (List.mem_of_mem_drop (List.mem_of_mem_take (by rw [h1]; exact h)))
  have hlen : (tb_txt.getD q.2.2.2 []).length < 2 ^ 31 := Nat.lt_trans (tx_bs _).1 (by decide)
  generalize tb_txt.getD q.2.2.2 [] = bs at hw hlen ⊢
  have hex := hw _ List.mem_cons_self
  have hco := hw _ (List.mem_cons_of_mem _ List.mem_cons_self)
  have har := hw _ (List.mem_cons_of_mem _ (List.mem_cons_of_mem _ List.mem_cons_self))
  have hle := hw _ (List.mem_cons_of_mem _ (List.mem_cons_of_mem _ (List.mem_cons_of_mem _ List.mem_cons_self)))
  have hel : ∀ j, j < bs.length → (Cond.eq (.elem (tx_fv q) (.int (Int32.ofNat j))) (.int (nI (bs.getD j 0)))).before A s = true := fun j hj => hw _ (List.mem_cons_of_mem _ (List.mem_cons_of_mem _ (List.mem_cons_of_mem _ (List.mem_cons_of_mem _ (List.mem_map.mpr ⟨j, List.mem_range.mpr hj, rfl⟩)))))
  obtain ⟨a, c, cA, kA, q1, q2, q3, q4, q5, q6, -⟩ := Cond.exactly_spec (args := A) (first := s) (o := none) (s := s) (idx := []) (t := tx_tm q) (cls := "java/lang/String") hex
  have h9 : (tx_tm q).eval A s none [] s = some (.ref (f (q.2.2.2 + 1))) := hR.2
  have ea : Value.ref a = .ref (f (q.2.2.2 + 1)) := Option.some.inj (q1.symm.trans h9)
  cases ea
  obtain ⟨v, ht, hT⟩ := va_Tof (f := fun j => .int (nI (bs.getD j 0))) (A := fun q => s.heap.size ≤ q) hlen har (va_eqt hle) (fun j hj => va_eqt (hel j hj)) hA
  exact ⟨v, ⟨cA, q3, q5, by rw [q6]; exact q2, hA _ (Array.getElem?_eq_some_iff.mp q3).1⟩, vk_OFof q1 (va_eqt hco) hA, vk_OFof q1 ht hA, hT⟩
theorem lw_text_ok : lw_text := by
  intro s A f hts hs hSK he
  have hA : ∀ a : Nat, a < s.heap.size → ¬ (fun q => s.heap.size ≤ q) a := fun a h => Nat.not_le.mpr h
  refine ⟨tx_ZT f s.heap.size, tx_sta f s.heap.size, tx_prim f s.heap.size, ⟨va_Zof (hts _ tx_yCS) (hts _ tx_jS) (va_eqi (hs _ (by decide +kernel))) hA, va_Zqof (hts _ tx_ySI) (hts _ tx_jP) (hs _ (by decide +kernel)) hA⟩, fun t => ?_⟩
  have key : ∀ t, t < tb_SK.length → tx_one s.heap.size (f (t + 1)) (tb_txt.getD t []) s s.heap := by
    intro t ht
    have h1 := of_decide_eq_true (List.all_eq_true.mp tx_SK t (List.mem_range.mpr ht))
    obtain ⟨q, hq, e1⟩ := Option.map_eq_some_iff.mp h1
    have hm := List.mem_of_getElem? hq
    have h2 := tx_text hs hm (hSK q hm)
    rw [e1] at h2
    exact h2
  by_cases ht : t < tb_SK.length
  · exact key t ht
  · have e1 : tb_txt.getD t [] = [] := by
      rw [List.getD_eq_getElem?_getD, List.getElem?_eq_none (Nat.le_trans (by decide +kernel) (Nat.not_lt.mp ht))]
      rfl
    have e2 : tb_txt.getD tb_e [] = [] := by decide +kernel
    have h2 := key tb_e (by decide +kernel)
    rw [e2] at h2
    rw [e1, he t (Nat.not_lt.mp ht)]
    exact h2
