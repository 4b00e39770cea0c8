/-! The claim out of one run of the small machine (the skeleton's own rows, with the launch's flag and the law's empty table said). -/
/-! THE CLAIM OUT OF ONE WALK OF THE LAW'S BODY. Your part is whole_start (and what it stands on); all else here is the same for every law, but numbers. -/
def R_law : String := "SpecialiserLaw"
def lw_P (b : Addr) (xs : List Int32) (args : Array Value) (s : State) : Prop := args = #[.ref b] ∧ s.IntsAt b xs ∧ xs.length ≤ 3072 ∧ (Jvm.Cond.and given_1 narrow_1).before args s = true
def lw_Q (_ : Array Value) (s : State) (o : Outcome) (t : State) : Prop := o = .returned (some (.int 1)) ∧ Framed s o t [] 601024 7293034
def lw_Z (below : List Frame) (a : Array Value) (s : State) : State → Prop := fun t => ∃ o, t.status = .running ∧ Ended t below o ∧ lw_Q a s o t
/-- the law's own end, with 1 on the stack, nothing written that was there before, its room as the claim has it -/
theorem lw_ret {p : Program} {l : Launch} {e : Env} {s : State} {m : MethodId} {below : List Frame} {meth : Method} {c : Code} {b : Nat} (hx : p.tables.exec = Jvm.exec) (hb : c.code = code) (hr : meth.sig.returnType = ret) (hlocks : meth.locks = false) {pc : Nat} {H : Heap} {ls : Array Slot} (hdg : decode code pc = .ok (.ireturn, 1)) : W p l e room_1 s m #[Value.ref b] below meth c H [] 601024 7293034 (lw_Z below #[Value.ref b] s) (F0 m pc ls [.int 1]) := by
  intro T hT X
  obtain ⟨fs, hret, hrun, hended, hW, hframe⟩ := X.leave (v := some (.int 1)) (hlocks := hlocks) (fun h => by rw [hr] at h; cases h)
  have hmeth' : T.vm.method? m = some meth := X.method'
  refine ⟨T.setFrames fs, ?_, .returned (some (.int 1)), hrun, hended, rfl, ⟨_, rfl⟩, hW, hframe⟩
  jvm_step X.here [X.here.top, hx, hb, hdg, hmeth', hr, ret, narrow_b1]
  (try refine ⟨rfl, ?_⟩); (try refine ⟨rfl, ?_⟩)
  first | (intro acts; rw [hret _ acts rfl rfl rfl]) | rw [hret _ _ rfl rfl rfl]
  exact Steps.refl _
/-- what holds at the law's entry: the machine, the code, the tables' words (any of lw_tbl by 'hts w (by decide +kernel)'), the script of L ints xs at the cell b, what the Statement gives of the start (any of its parts by flat_of_before) -/
def lw_At (p : Program) (s : State) (m : MethodId) (meth : Method) (c : Code) (b L : Nat) (xs : Nat → Int32) : Prop :=
  p.tables.exec = Jvm.exec ∧ c.code = code ∧ meth.sig.returnType = ret ∧ c.maxLocals = 7 ∧ s.vm.findClass R_law = some m.cls ∧ (∀ w ∈ lw_tbl, w.before #[Value.ref b] s = true) ∧ va_X b L xs s s.heap ∧ b < s.heap.size ∧ meth.locks = false ∧ (Jvm.Cond.and given_1 narrow_1).before #[Value.ref b] s = true ∧ c.exceptionTable.toList = []
theorem tb_str {s : State} {A : Array Value} {own tx : String} {k : Nat} (h1 : (Cond.stringRef own k tx).before A s = true) (h2 : (Cond.exactly (.string own k) "java/lang/String").before A s = true) : ∃ a, vk_R own k tx a s := by
  obtain ⟨a, c, cell, k9, e1, -⟩ := Cond.exactly_spec h2
  exact ⟨a, vk_R.of h1 e1⟩
theorem tb_arr {s : State} {A : Array Value} {ty : FieldType} (h : (Cond.arrayClass ty).before A s = true) : ∃ cA : ClassId, ArrOfT s cA ty ∧ s.vm.findClass ("[" ++ ty.toString) = some cA := by
  obtain ⟨cA, kA, comp, h1, h2, h3⟩ := Cond.arrayClass_spec h
  exact ⟨cA, fun n z => ⟨fun k h => (by cases h), kA, h2, comp, h3⟩, h1⟩
def lw_pure : Prop := ∀ (L : Nat) (xs : Nat → Int32), L ≤ 3072 → ∃ (fuel d : Nat) (h : mi_H), d ≤ 1200 ∧ mi_run tb_P L xs (mi_call tb_P L xs fuel d) 0 fuel 0 [(0, .ref 0)] [] (1, 0, fun _ => mi_dead) = some (.inl (some (.int 1)), h) ∧ h.1 ≤ 1 + 601024 ∧ h.2.1 ≤ 7293034
theorem tb_SK_ok {s : State} {A : Array Value} (hts : ∀ w ∈ lw_tbl, w.before A s = true) (hs : ∀ w ∈ flatC (Jvm.Cond.and given_1 narrow_1), w.before A s = true) : ∀ q ∈ tb_SK, ∃ a, vk_R q.1 q.2.1 q.2.2.1 a s := by
  intro q hq
  simp only [tb_SK, List.mem_cons, List.not_mem_nil, or_false] at hq
  rcases hq with rfl | rfl | rfl | rfl | rfl | rfl | rfl | rfl | rfl | rfl | rfl | rfl | rfl | rfl | rfl | rfl | rfl | rfl | rfl | rfl | rfl | rfl | rfl | rfl | rfl | rfl | rfl | rfl | rfl | rfl | rfl | rfl
  · exact tb_str (hts _ (tb_tab_in 3 _ (List.mem_of_getElem? (i := 212) (by decide +kernel)))) (hs _ (by decide +kernel))
  · exact tb_str (hts _ (tb_tab_in 4 _ (List.mem_of_getElem? (i := 21) (by decide +kernel)))) (hs _ (by decide +kernel))
  · exact tb_str (hts _ (tb_tab_in 4 _ (List.mem_of_getElem? (i := 49) (by decide +kernel)))) (hs _ (by decide +kernel))
  · exact tb_str (hts _ (tb_tab_in 4 _ (List.mem_of_getElem? (i := 84) (by decide +kernel)))) (hs _ (by decide +kernel))
  · exact tb_str (hts _ (tb_tab_in 4 _ (List.mem_of_getElem? (i := 99) (by decide +kernel)))) (hs _ (by decide +kernel))
  · exact tb_str (hts _ (tb_tab_in 4 _ (List.mem_of_getElem? (i := 100) (by decide +kernel)))) (hs _ (by decide +kernel))
  · exact tb_str (hts _ (tb_tab_in 5 _ (List.mem_of_getElem? (i := 74) (by decide +kernel)))) (hs _ (by decide +kernel))
  · exact tb_str (hts _ (tb_tab_in 5 _ (List.mem_of_getElem? (i := 92) (by decide +kernel)))) (hs _ (by decide +kernel))
  · exact tb_str (hts _ (tb_tab_in 5 _ (List.mem_of_getElem? (i := 101) (by decide +kernel)))) (hs _ (by decide +kernel))
  · exact tb_str (hts _ (tb_tab_in 5 _ (List.mem_of_getElem? (i := 229) (by decide +kernel)))) (hs _ (by decide +kernel))
  · exact tb_str (hts _ (tb_tab_in 5 _ (List.mem_of_getElem? (i := 238) (by decide +kernel)))) (hs _ (by decide +kernel))
  · exact tb_str (hts _ (tb_tab_in 6 _ (List.mem_of_getElem? (i := 13) (by decide +kernel)))) (hs _ (by decide +kernel))
  · exact tb_str (hts _ (tb_tab_in 6 _ (List.mem_of_getElem? (i := 21) (by decide +kernel)))) (hs _ (by decide +kernel))
  · exact tb_str (hts _ (tb_tab_in 6 _ (List.mem_of_getElem? (i := 22) (by decide +kernel)))) (hs _ (by decide +kernel))
  · exact tb_str (hts _ (tb_tab_in 6 _ (List.mem_of_getElem? (i := 23) (by decide +kernel)))) (hs _ (by decide +kernel))
  · exact tb_str (hts _ (tb_tab_in 4 _ (List.mem_of_getElem? (i := 163) (by decide +kernel)))) (hs _ (by decide +kernel))
  · exact tb_str (hts _ (tb_tab_in 5 _ (List.mem_of_getElem? (i := 122) (by decide +kernel)))) (hs _ (by decide +kernel))
  · exact tb_str (hts _ (tb_tab_in 5 _ (List.mem_of_getElem? (i := 123) (by decide +kernel)))) (hs _ (by decide +kernel))
  · exact tb_str (hts _ (tb_tab_in 5 _ (List.mem_of_getElem? (i := 176) (by decide +kernel)))) (hs _ (by decide +kernel))
  · exact tb_str (hts _ (tb_tab_in 5 _ (List.mem_of_getElem? (i := 227) (by decide +kernel)))) (hs _ (by decide +kernel))
  · exact tb_str (hts _ (tb_tab_in 5 _ (List.mem_of_getElem? (i := 189) (by decide +kernel)))) (hs _ (by decide +kernel))
  · exact tb_str (hts _ (tb_tab_in 5 _ (List.mem_of_getElem? (i := 199) (by decide +kernel)))) (hs _ (by decide +kernel))
  · exact tb_str (hts _ (tb_tab_in 5 _ (List.mem_of_getElem? (i := 200) (by decide +kernel)))) (hs _ (by decide +kernel))
  · exact tb_str (hts _ (tb_tab_in 5 _ (List.mem_of_getElem? (i := 202) (by decide +kernel)))) (hs _ (by decide +kernel))
  · exact tb_str (hts _ (tb_tab_in 5 _ (List.mem_of_getElem? (i := 207) (by decide +kernel)))) (hs _ (by decide +kernel))
  · exact tb_str (hts _ (tb_tab_in 5 _ (List.mem_of_getElem? (i := 208) (by decide +kernel)))) (hs _ (by decide +kernel))
  · exact tb_str (hts _ (tb_tab_in 5 _ (List.mem_of_getElem? (i := 209) (by decide +kernel)))) (hs _ (by decide +kernel))
  · exact tb_str (hts _ (tb_tab_in 5 _ (List.mem_of_getElem? (i := 222) (by decide +kernel)))) (hs _ (by decide +kernel))
  · exact tb_str (hts _ (tb_tab_in 5 _ (List.mem_of_getElem? (i := 223) (by decide +kernel)))) (hs _ (by decide +kernel))
  · exact tb_str (hts _ (tb_tab_in 5 _ (List.mem_of_getElem? (i := 224) (by decide +kernel)))) (hs _ (by decide +kernel))
  · exact tb_str (hts _ (tb_tab_in 5 _ (List.mem_of_getElem? (i := 225) (by decide +kernel)))) (hs _ (by decide +kernel))
  · exact tb_str (hts _ (tb_tab_in 5 _ (List.mem_of_getElem? (i := 226) (by decide +kernel)))) (hs _ (by decide +kernel))
set_option maxRecDepth 100000 in
theorem tb_SK_one : tb_SK.all (fun q => tb_SK.all (fun z => !(decide (q.2.2.2 = z.2.2.2)) || decide (q = z))) = true := by decide +kernel
/-- the place of the empty text (a text that is none stands for it) -/
def tb_e : Nat := 16
set_option maxRecDepth 100000 in
theorem tb_SK_lt : tb_SK.all (fun q => decide (q.2.2.2 < tb_SK.length)) = true := by decide +kernel
theorem tb_adr {s : State} (h : ∀ q ∈ tb_SK, ∃ a, vk_R q.1 q.2.1 q.2.2.1 a s) : ∃ f : Nat → Nat, (∀ q ∈ tb_SK, vk_R q.1 q.2.1 q.2.2.1 (f q.2.2.2) s) ∧ ∀ t, tb_SK.length ≤ t → f t = f tb_e := by
  have hx : ∀ t : Nat, ∃ a : Nat, ∀ q ∈ tb_SK, q.2.2.2 = t → vk_R q.1 q.2.1 q.2.2.1 a s := by
    intro t
    by_cases hq : ∃ q, q ∈ tb_SK ∧ q.2.2.2 = t
    · obtain ⟨q, hm, rfl⟩ := hq
      obtain ⟨a, ha⟩ := h q hm
      refine ⟨a, fun z hz e1 => ?_⟩
      have h1 := List.all_eq_true.mp (List.all_eq_true.mp tb_SK_one q hm) z hz
      simp only [Bool.or_eq_true, Bool.not_eq_true', decide_eq_false_iff_not, decide_eq_true_eq] at h1
      rcases h1 with h1 | h1
      · exact absurd e1.symm h1
      · rw [← h1]; exact ha
    · exact ⟨0, fun z hz e1 => absurd ⟨z, hz, e1⟩ hq⟩
  refine ⟨fun t => if t < tb_SK.length then Classical.choose (hx t) else Classical.choose (hx tb_e), fun q hq => ?_, fun t ht => ?_⟩
  · have hl : q.2.2.2 < tb_SK.length := of_decide_eq_true (List.all_eq_true.mp tb_SK_lt q hq)
    show vk_R q.1 q.2.1 q.2.2.1 (if q.2.2.2 < tb_SK.length then Classical.choose (hx q.2.2.2) else Classical.choose (hx tb_e)) s
    rw [if_pos hl]
    exact Classical.choose_spec (hx q.2.2.2) q hq rfl
  · show (if t < tb_SK.length then Classical.choose (hx t) else Classical.choose (hx tb_e)) = (if tb_e < tb_SK.length then Classical.choose (hx tb_e) else Classical.choose (hx tb_e))
    rw [if_neg (Nat.not_lt.mpr ht), ite_self]
theorem tb_NC_ok {s : State} {A : Array Value} (hs : ∀ w ∈ flatC (Jvm.Cond.and given_1 narrow_1), w.before A s = true) : ∀ q ∈ tb_NC, va_Nc q.1 q.2 s := by
  intro q hq
  simp only [tb_NC, List.mem_cons, List.not_mem_nil, or_false] at hq
  rcases hq with rfl | rfl | rfl | rfl | rfl | rfl | rfl | rfl | rfl | rfl | rfl | rfl
  · exact va_Nc.of (hs _ (by decide +kernel))
  · exact va_Nc.of (hs _ (by decide +kernel))
  · exact va_Nc.of (hs _ (by decide +kernel))
  · exact va_Nc.of (hs _ (by decide +kernel))
  · exact va_Nc.of (hs _ (by decide +kernel))
  · exact va_Nc.of (hs _ (by decide +kernel))
  · exact va_Nc.of (hs _ (by decide +kernel))
  · exact va_Nc.of (hs _ (by decide +kernel))
  · exact va_Nc.of (hs _ (by decide +kernel))
  · exact va_Nc.of (hs _ (by decide +kernel))
  · exact va_Nc.of (hs _ (by decide +kernel))
  · exact va_Nc.of (hs _ (by decide +kernel))
theorem tb_K_ok {s : State} {A : Array Value} (hts : ∀ w ∈ lw_tbl, w.before A s = true) : ∃ (D : va_G) (tA : FieldType → ClassId), va_K D vwCl (mi_tys tA) s := by
  have hG : ∀ w ∈ tb_GT, w.before A s = true := fun w hw => hts w (List.mem_filter.mp hw).1
  obtain ⟨c0, i0, hK0⟩ := u_known (C := RX0) (T := TX0) (N := 4) (n := 4) hG (tb_cls_ok 0 _ _ _ rfl).1 (hG _ (tb_cls_ok 0 _ _ _ rfl).2.2.2.1)
  obtain ⟨c1, i1, hK1⟩ := u_known (C := RX1) (T := TX1) (N := 1) (n := 1) hG (tb_cls_ok 1 _ _ _ rfl).1 (hG _ (tb_cls_ok 1 _ _ _ rfl).2.2.2.1)
  obtain ⟨c2, i2, hK2⟩ := u_known (C := RX2) (T := TX2) (N := 11) (n := 11) hG (tb_cls_ok 2 _ _ _ rfl).1 (hG _ (tb_cls_ok 2 _ _ _ rfl).2.2.2.1)
  obtain ⟨c3, i3, hK3⟩ := u_known (C := RX3) (T := TX3) (N := 8) (n := 8) hG (tb_cls_ok 3 _ _ _ rfl).1 (hG _ (tb_cls_ok 3 _ _ _ rfl).2.2.2.1)
  obtain ⟨c4, i4, hK4⟩ := u_known (C := RX4) (T := TX4) (N := 13) (n := 13) hG (tb_cls_ok 4 _ _ _ rfl).1 (hG _ (tb_cls_ok 4 _ _ _ rfl).2.2.2.1)
  obtain ⟨c5, i5, hK5⟩ := u_known (C := RX5) (T := TX5) (N := 1) (n := 1) hG (tb_cls_ok 5 _ _ _ rfl).1 (hG _ (tb_cls_ok 5 _ _ _ rfl).2.2.2.1)
  obtain ⟨c6, i6, hK6⟩ := u_known (C := RX6) (T := TX6) (N := 13) (n := 13) hG (tb_cls_ok 6 _ _ _ rfl).1 (hG _ (tb_cls_ok 6 _ _ _ rfl).2.2.2.1)
  obtain ⟨c7, i7, hK7⟩ := u_known (C := RX7) (T := TX7) (N := 6) (n := 6) hG (tb_cls_ok 7 _ _ _ rfl).1 (hG _ (tb_cls_ok 7 _ _ _ rfl).2.2.2.1)
  obtain ⟨c8, i8, hK8⟩ := u_known (C := RX8) (T := TX8) (N := 7) (n := 7) hG (tb_cls_ok 8 _ _ _ rfl).1 (hG _ (tb_cls_ok 8 _ _ _ rfl).2.2.2.1)
  obtain ⟨c9, i9, hK9⟩ := u_known (C := RX9) (T := TX9) (N := 4) (n := 4) hG (tb_cls_ok 9 _ _ _ rfl).1 (hG _ (tb_cls_ok 9 _ _ _ rfl).2.2.2.1)
  obtain ⟨c10, i10, hK10⟩ := u_known (C := RX10) (T := TX10) (N := 20) (n := 20) hG (tb_cls_ok 10 _ _ _ rfl).1 (hG _ (tb_cls_ok 10 _ _ _ rfl).2.2.2.1)
  obtain ⟨c11, i11, hK11⟩ := u_known (C := RX11) (T := TX11) (N := 99) (n := 99) hG (tb_cls_ok 11 _ _ _ rfl).1 (hG _ (tb_cls_ok 11 _ _ _ rfl).2.2.2.1)
  obtain ⟨aI, hI⟩ := tb_arr (hG _ tb_ok.1.1)
  obtain ⟨aL, hJ⟩ := tb_arr (hG _ tb_ok.1.2.1)
  obtain ⟨aZ, hZ⟩ := tb_arr (hG _ tb_ok.1.2.2)
  refine ⟨(fun k => [c0, c1, c2, c3, c4, c5, c6, c7, c8, c9, c10, c11].getD k 0, fun k => [i0, i1, i2, i3, i4, i5, i6, i7, i8, i9, i10, i11].getD k (fun _ => 0)), fun ty => match ty with
    | .int => aI
    | .long => aL
    | _ => aZ, ?_, ?_⟩
  · intro k q hq
    match k, hq with
    | 0, hq => cases hq; exact hK0
    | 1, hq => cases hq; exact hK1
    | 2, hq => cases hq; exact hK2
    | 3, hq => cases hq; exact hK3
    | 4, hq => cases hq; exact hK4
    | 5, hq => cases hq; exact hK5
    | 6, hq => cases hq; exact hK6
    | 7, hq => cases hq; exact hK7
    | 8, hq => cases hq; exact hK8
    | 9, hq => cases hq; exact hK9
    | 10, hq => cases hq; exact hK10
    | 11, hq => cases hq; exact hK11
    | k + 12, hq => simp [vwCl] at hq
  · intro k q hq
    match k, hq with
    | 0, hq => cases hq; exact ⟨hI.1, hI.2⟩
    | 1, hq => cases hq; exact ⟨hJ.1, hJ.2⟩
    | 2, hq => cases hq; exact ⟨hZ.1, hZ.2⟩
    | k + 3, hq => simp [mi_tys] at hq
def lw_text : Prop := ∀ (s : State) (A : Array Value) (f : Nat → Nat), (∀ w ∈ lw_tbl, w.before A s = true) → (∀ w ∈ flatC (Jvm.Cond.and given_1 narrow_1), w.before A s = true) → (∀ q ∈ tb_SK, vk_R q.1 q.2.1 q.2.2.1 (f (q.2.2.2 + 1)) s) → (∀ t, tb_SK.length ≤ t → f (t + 1) = f (tb_e + 1)) → ∃ ZT : State → Prop, mi_sta s.heap.size ZT ∧ mi_prim f s.heap.size tb_GT tb_P ZT ∧ ZT s
set_option maxHeartbeats 4000000 in
/-- THE LAW, from its entry, if the small machine has run it to 1 -/
theorem whole_start (hp : lw_pure) (hT : lw_text) {p : Program} {e : Env} {s : State} {m : MethodId} {below : List Frame} {meth : Method} {c : Code} (l : Launch) (htr : l.stackTraces = false) {b L : Nat} {xs : Nat → Int32} (hL : L ≤ 3072) (C0 : lw_At p s m meth c b L xs) : W p l e room_1 s m #[Value.ref b] below meth c s.heap [] 0 0 (lw_Z below #[Value.ref b] s) (entryFrame m ([Value.ref b] : List Value).toArray 7) := by
  obtain ⟨hx, hb, hr, hml, hown, hts, hX, hbl, hlocks, hgv, htab⟩ := C0
  obtain ⟨fuel, d, h', hd, hrun, hc, hs⟩ := hp L xs hL
  obtain ⟨D, tA, hK⟩ := tb_K_ok hts
  have hsf := flat_of_before _ hgv
  have hG : ∀ w ∈ tb_GT, w.before #[Value.ref b] s = true := fun w hw => hts w (List.mem_filter.mp hw).1
  have hno : ∀ a : Nat, a < s.heap.size → ¬ (fun q => s.heap.size ≤ q) a := fun a h => Nat.not_le.mpr h
  obtain ⟨fa, hfa, hfe⟩ := tb_adr (tb_SK_ok hts hsf)
  obtain ⟨bb, hb0, hbt⟩ : ∃ bb : Nat → Nat, bb 0 = b ∧ ∀ t, bb (t + 1) = fa t := ⟨fun k => match k with
    | 0 => b
    | t + 1 => fa t, rfl, fun _ => rfl⟩
  have hSK : ∀ q ∈ tb_SK, vk_R q.1 q.2.1 q.2.2.1 (bb (q.2.2.2 + 1)) s := fun q hq => by rw [hbt]; exact hfa q hq
  obtain ⟨ZT, hZT, hprim, hZs⟩ := hT s _ bb hts hsf hSK (fun t ht => by rw [hbt, hbt]; exact hfe t ht)
  have hZ : mi_Z bb s.heap.size tb_SK tb_NC ZT s := by
    refine ⟨vx_Zqof (hts _ (tb_tab_in 3 _ (List.mem_of_getElem? (i := 197) (by decide +kernel)))) (hts _ (tb_tab_in 1 _ (List.mem_of_getElem? (i := 13) (by decide +kernel)))) (hsf _ (by decide +kernel)) hno, vx_Zqof (hts _ (tb_tab_in 3 _ (List.mem_of_getElem? (i := 199) (by decide +kernel)))) (hts _ (tb_tab_in 1 _ (List.mem_of_getElem? (i := 13) (by decide +kernel)))) (hsf _ (by decide +kernel)) hno, hSK, tb_NC_ok hsf, hZs⟩
  have hl := lv_entry ([.ref b]) (n := 7) (Nat.le_of_ble_eq_true rfl)
  rw [lg_entry_eq]
  generalize (lg_sl ([.ref b]) ++ List.replicate (7 - (lg_sl ([.ref b])).length) Slot.unset).toArray = ls at hl ⊢
  have hl : lv_has ls (mi_mx tb_P 0) (mi_lm bb s.heap.size [(0, .ref 0)]) := by
    show lv_has ls _ [(0, .ref (bb 0))]
    rw [hb0]
    exact hl
  have hR : mi_R D vwCl tA bb s.heap.size (1, 0, fun _ => mi_dead) s.heap := ⟨rfl, Nat.le_refl _, fun k hk => by
    have hk : k + 1 < 1 := hk
    omega⟩
  refine mi_run_ok (R := room_1) (D := D) (cl := vwCl) (tA := tA) (GT := tb_GT) (P := tb_P) (j := 0) (d := d) (n0 := 1) (s0 := 0) (b := bb) (B := s.heap.size) (SK := tb_SK) (NC := tb_NC) (o := .inl (some (.int 1))) (h' := h') hZT hprim tb_ok hx hb hml htab hG hown (fun z => absurd z (by decide)) hK (by rw [hb0]; exact hX) (by rw [hb0]; exact hbl) (by rw [hb0]; exact hbl) hZ
    (by show 10 + d + 1 ≤ 2048; omega) (by show 200 + 64 * (d + 1) ≤ 84000; omega) (fun k as g o g' z => ⟨mi_sound hZT hprim tb_ok htr (by rw [hb0]; exact hbl) d k as g o g' z, mi_call_le d k as g o g' z⟩)
    (by show h'.1 ≤ 1 + 601024; omega) (by show h'.2.1 ≤ 0 + 7293034; omega) ?_ ?_ ?_ fuel 0 [(0, .ref 0)] [] _ hrun ls s.heap [] 0 0 hl hR va_S.rf rfl rfl
  · intro pc i st v ls H locs cells slots ho hi hv hR1 hS1 z1 z2
    cases ho
    have hdi := (mi_dec_ok ((tb_ok.2.2.2.2 0).2.1 pc i hi)).1
    have key : i = .ireturn ∧ st = [.int 1] := by
      unfold mi_ret at hv
      split at hv
      · split at hv
        · cases hv; exact ⟨rfl, rfl⟩
        · split at hv
          · cases hv; exact ⟨rfl, rfl⟩
          · cases hv
        · cases hv
      · split at hv <;> cases hv
      · split at hv <;> cases hv
      · split at hv <;> cases hv
      · split at hv <;> cases hv
      · cases hv
    obtain ⟨rfl, rfl⟩ := key
    refine va_forget hS1.2.2 (W.widen (k := 601024) (n := 7293034) (by omega) (by omega) ?_)
    exact lw_ret hx hb hr hlocks (hdi rfl)
  · intro pc E h1 ls H locs cells slots ho
    cases ho
  · intro pc E q9 ce ls H locs cells slots rest ho
    cases ho
set_option maxHeartbeats 4000000 in
theorem lw_walk (hp : lw_pure) (hT : lw_text) (l : Launch) (htr : l.stackTraces = false) (b : Addr) (xs : List Int32) : MetFree l x (headSpec (Jvm.Cond.code x code maxLocals ret :: tables_1) room_1) (lw_P b xs) (fun _ _ _ _ _ => True) lw_Q := by
  refine MetFree.of_bodyS (code := code) (maxLocals := maxLocals) (ret := ret) (by decide) ?_ ?_
  · intro args s m h hn
    obtain ⟨meth, c, h1, h2, h3, h4, h5, h6, -, -⟩ := Cond.code_spec hn (atoms_spec (ws := Jvm.Cond.code x code maxLocals ret :: tables_1) h _ List.mem_cons_self)
    exact ⟨meth, c, h1, h2, h3, h4, h5, h6⟩
  · intro p e s m args below meth c s₁ B hml0 hP _
    obtain ⟨rfl, hx, hbd, hgv⟩ := hP
    obtain ⟨scr, harrAt, hlist, hof, hsmall⟩ := hx
    obtain ⟨hcb, hkn, -, -⟩ := State.arrayAt?_spec harrAt
    have hown : s.vm.findClass R_law = some m.cls := findClass_of_methodNamed B.named
    have hts0 : ∀ c ∈ (Jvm.Cond.code x code maxLocals ret :: tables_1), c.before #[Value.ref b] s = true := atoms_spec (ws := Jvm.Cond.code x code maxLocals ret :: tables_1) B.pre
    have hts : ∀ w ∈ lw_tbl, w.before #[Value.ref b] s = true := k2_hts_sels lw_privs (fun w hw => hts0 w (List.mem_cons_of_mem _ hw)) lw_privs_ok
    have hml : c.maxLocals = 7 := B.maxLocals_eq (hts0 _ List.mem_cons_self)
    have htab : c.exceptionTable.toList = [] := by
      obtain ⟨meth9, c9, h1, h2, -, -, -, -, h7, -⟩ := Cond.code_spec B.named (hts0 _ List.mem_cons_self)
      cases Option.some.inj (h1.symm.trans B.method)
      cases Option.some.inj (h2.symm.trans (Stand.of_body B).code)
      rw [Array.isEmpty_iff.mp h7]
    have X₀ : Stand p l e room_1 s m #[Value.ref b] below meth c s₁ [] 0 0 := Stand.of_body B
    have hh0 : s₁.heap = s.heap := by rw [B.state]; rfl
    have hsz : scr.slots.size = xs.length := by rw [← Array.length_toList, hlist, List.length_map]
    have hval : ∀ j : Nat, j < xs.length → scr.slots[j]? = some (.int (xs.getD j 0)) := fun j hj => by
      rw [← Array.getElem?_toList, hlist]
      simp [hj]
    have hbl : b < s.heap.size := (Array.getElem?_eq_some_iff.mp hcb).1
    have hX : va_X b xs.length (fun j => xs.getD j 0) s s.heap := ⟨scr, hcb, hof, hkn, hsz, hval⟩
    have K : W p l e room_1 s m #[Value.ref b] below meth c s₁.heap [] 0 0 (lw_Z below #[Value.ref b] s) (entryFrame m ([Value.ref b] : List Value).toArray 7) := by
      rw [hh0]
      exact whole_start hp hT l htr hbd ⟨B.exec, B.bytes, B.returns, hml, hown, hts, hX, hbl, B.notSynchronized, hgv, htab⟩
    obtain ⟨t, a1, o, b1, b2, b3⟩ := K s₁ rfl X₀
    exact ⟨t, o, a1, b1, b2, b3⟩
theorem lw_pre_spec {args : Array Value} {s : State} (h : (Jvm.Cond.and given_1 narrow_1).before args s = true) (hr : rest_1_c.before args s = true) : ∃ (b : Addr) (xs : List Int32), lw_P b xs args s := by
  have hs := flat_of_before _ h
  have hq := flat_of_before _ hr
  have hc : (Cond.count 1).before args s = true := hs _ (by decide +kernel)
  have harr : (Cond.arrayOf (.arg 0) .int).before args s = true := hs _ (by decide +kernel)
  have hle : (Cond.le (.length (.arg 0)) (.int 3072)).before args s = true := hs _ (by decide +kernel)
  have hlen : (Cond.isInt (.length (.arg 0))).before args s = true := hq _ (by decide +kernel)
  have hall : (Cond.all (.arg 0) (.isInt (.elem (.arg 0) (.index 0)))).before args s = true := hq _ (by decide +kernel)
  obtain ⟨b, xs, hb, hx⟩ := State.ints_of_pre rfl harr hlen hall
  have hsm : xs.length < 2 ^ 31 := hx.choose_spec.2.2.2
  have hev : (Term.length (.arg 0)).eval args s none [] s = some (.int xs.length.toInt32) := hx.length_eval hb
  have hv := Cond.le_ints hev (show (Term.int 3072).eval args s none [] s = some (.int 3072) from rfl)
  have hd : xs.length.toInt32 ≤ 3072 := by
    simpa [Cond.before, Cond.holds, hv] using hle
  have hN : xs.length ≤ 3072 := (Int32.ofNat_le_ofNat hsm (by decide)).mp (show Int32.ofNat xs.length ≤ Int32.ofNat 3072 from hd)
  exact ⟨b, xs, Cond.one_arg hc (show args[0]? = some (.ref b) from hb), hx, hN, h⟩
theorem lw_comes (hp : lw_pure) (hT : lw_text) (l : Launch) (htr : l.stackTraces = false) : Comes l x (Jvm.Cond.code x code maxLocals ret :: tables_1) room_1 (fun tb e args s => Calls_1 tb e args s ∧ rest_1 tb e args s ∧ Pre_1 tb e args s)
    (fun _ _ args s o t => lw_Q args s o t) := by
  intro p e ha hc hk s m args below hf hfit hheap happ hpre
  obtain ⟨b, xs, hP⟩ := lw_pre_spec hpre.2.2 hpre.2.1
  obtain ⟨k, o, h1, h2, h3, hQ⟩ := lw_walk hp hT l htr b xs p e ha hc hk s m args below hf ((Spec.applies_iff_loose hf).mp happ).1 hP trivial
  exact ⟨k, o, h1, h2, h3, hQ⟩
theorem lw_frame {s t : State} {o : Outcome} {args : Array Value} (h : Framed s o t [] 601024 7293034) :
    Framed s o t (fieldLocs frame_1_writes args s ++ arrayLocs frame_1_arrays args s ++ staticLocs frame_1_statics s) 601024 7293034 := h
theorem lw_limb (hp : lw_pure) (hT : lw_text) (L : Cond) (hL : ∀ (args : Array Value) (s t : State), L.after args s (.returned (some (.int 1))) t = true) :
    ArmFor flags0 classFile x code maxLocals ret World_1 tables_1 room_1 Calls_1 rest_1 Pre_1
      (fun tb e a s o t => postC L tb e a s o t ∧ Framed s o t (fieldLocs frame_1_writes a s ++ arrayLocs frame_1_arrays a s ++ staticLocs frame_1_statics s) 601024 7293034) := by
  intro l hfl _ _ p e ha hc hk s m args below hf hfit hheap happ hpre
  have htr : l.stackTraces = false := by unfold Launch.stackTraces; rw [hfl]; decide +kernel
  obtain ⟨k, o, h1, h2, h3, rfl, hF⟩ := lw_comes hp hT l htr p e ha hc hk s m args below hf hfit hheap happ hpre
  exact ⟨k, _, h1, h2, h3, hL args s _, lw_frame hF⟩
theorem i_vc_open (hp : lw_pure) (hT : lw_text) : Claimed_1_1 ∧ Claimed_1_2 := ⟨lw_limb hp hT limb_1_1 (fun args s t => by simp [limb_1_1, Cond.after, Cond.holds, Cond.value]), lw_limb hp hT limb_1_2 (fun args s t => Cond.after_iff.mpr (by
  first | (rw [show limb_1_2 = Cond.eq .result (.int 1) from rfl, Cond.eq_ints (x := 1) (y := 1) rfl rfl]; simp; done) | (simp [limb_1_2, Cond.value, Term.eval]; done)))⟩
