/-! Whole runs of methods: the machine does what the small machine does. -/
/-- a throw's place by its words -/
def mi_tok (GT : List Cond) (P : mi_P) (SK : List (String × Nat × String × Nat)) (j pc : Nat) (E : String) : Prop :=
  ∃ (text : String) (names : List String) (ik is ic tt : Nat), ((mi_nm P j).cls, is, text, tt) ∈ SK ∧ Bundle.fit E = true ∧ (∀ n ∈ names, Bundle.fit n = true) ∧ names.length ≤ 4 ∧ Cond.classLink (mi_nm P j).cls ik E ∈ GT ∧ Cond.initialized E ∈ GT ∧ (∀ w ∈ vx_atS (mi_nm P j).cls ic E names, w ∈ GT) ∧
    (∀ w ∈ Cond.classLink (mi_nm P j).cls ik E :: Cond.initialized E :: vx_atS (mi_nm P j).cls ic E names, vx_ot w = true) ∧ (mi_hh P j).isEmpty = true ∧
    decode (mi_cd P j) pc = .ok (.new ik, 3) ∧ decode (mi_cd P j) (pc + 3) = .ok (.dup, 1) ∧ decode (mi_cd P j) (pc + 4) = .ok (.ldc is, 2) ∧ decode (mi_cd P j) (pc + 6) = .ok (.invokespecial ic, 3) ∧ decode (mi_cd P j) (pc + 9) = .ok (.athrow, 1)
/-- all that is asked of a method's tables -/
def mi_jok (GT : List Cond) (cl : List vw_C) (P : mi_P) (SK : List (String × Nat × String × Nat)) (NC : List (String × String)) (j : Nat) : Prop :=
  mi_plc GT cl P j ∧ (∀ pc i, mi_is P j pc = some i → mi_dec (mi_cd P j) pc = some i) ∧ (∀ ix k kind n, mi_iv P j ix = some (k, kind, n) → mi_sok GT cl P (mi_nm P j).cls ix k kind n) ∧ (∀ pc E, mi_th P j pc = some E → mi_tok GT P SK j pc E) ∧ (∀ pc E hp, mi_ca P j pc E = some hp → mi_cok GT P NC j pc E hp) ∧ plainFor (mi_nm P j) = true ∧ (∀ ix t, mi_cs P j ix = some (.retAddr t) → ∃ text, ((mi_nm P j).cls, ix, text, t) ∈ SK)
/-- .. and of all of them -/
def mi_ok (GT : List Cond) (cl : List vw_C) (P : mi_P) (SK : List (String × Nat × String × Nat)) (NC : List (String × String)) : Prop :=
  (Cond.arrayClass .int ∈ GT ∧ Cond.arrayClass .long ∈ GT ∧ Cond.arrayClass .boolean ∈ GT) ∧ mi_cls GT cl (mi_ft P) ∧ (∀ w ∈ GT, mi_wk w = true) ∧ cl.length ≤ 1000000 ∧ ∀ j, mi_jok GT cl P SK NC j
section MiFrame
variable {p : Program} {l : Launch} {e : Env} {R : Room} {s : State} {m : MethodId} {args : Array Value} {below : List Frame} {meth : Method} {c : Code} {Q : State → Prop}
variable {b : Nat → Nat} {B : Nat} {D : va_G} {cl : List vw_C} {tA : FieldType → ClassId} {GT : List Cond} {P : mi_P} {j d L n0 s0 : Nat} {xs : Nat → Int32} {SK : List (String × Nat × String × Nat)} {NC : List (String × String)} {ZT : State → Prop}
set_option maxHeartbeats 2000000 in
theorem mi_run_ok (hZT : mi_sta B ZT) (hprim : mi_prim b B GT P ZT) (hok : mi_ok GT cl P SK NC) (hx : p.tables.exec = Jvm.exec) (hb : c.code = mi_cd P j) (hml : c.maxLocals = mi_mx P j) (htab : c.exceptionTable.toList = tableOf (mi_hh P j)) (hts : ∀ w ∈ GT, w.before args s = true) (hown : s.vm.findClass (mi_nm P j).cls = some m.cls) (hname : (mi_nm P j).name = "<init>" → meth.name = "<init>")
    (hK : va_K D cl (mi_tys tA) s) (hX : va_X (b 0) L xs s s.heap) (hbl : b 0 < s.heap.size) (hbB : b 0 < B) (hZ : mi_Z b B SK NC ZT s)
    (hfr : 10 + d + 1 ≤ R.frames) (hlo : 200 + 64 * (d + 1) ≤ R.locals) {call : mi_C} (hcall : ∀ k as g o g', call k as g = some (o, g') → mi_Met D cl tA b B L xs SK NC ZT GT P l d k as g o g' ∧ mi_le g g')
    {o : mi_O} {h' : mi_H} (hRc : h'.1 ≤ n0 + R.cells) (hRs : h'.2.1 ≤ s0 + R.slots)
    (KR : ∀ (pc : Nat) (i : Instr) (st : List Value) (v : Option Value) (ls : Array Slot) (H : Heap) (locs : List Loc) (cells slots : Nat), o = .inl v → mi_is P j pc = some i → mi_ret (mi_rt P j) i st = some v → mi_R D cl tA b B h' H → va_S (fun q => B ≤ q) s.heap H locs → n0 + cells = h'.1 → s0 + slots = h'.2.1 → W p l e R s m args below meth c H locs cells slots Q (F0 m pc ls (st.map (mi_v b B))))
    (KT : ∀ (pc : Nat) (E : String) (h1 : mi_H) (ls : Array Slot) (H : Heap) (locs : List Loc) (cells slots : Nat), o = .inr E → mi_th P j pc = some E → h' = mi_push h1 6 mi_dead → ls.size = mi_mx P j → mi_R D cl tA b B h1 H → va_S (fun q => B ≤ q) s.heap H locs → n0 + cells = h1.1 → s0 + slots = h1.2.1 → W p l e R s m args below meth c H locs cells slots Q (F0 m pc ls []))
    (KX : ∀ (pc : Nat) (E : String) (q9 : Addr) (ce : Cell) (ls : Array Slot) (H : Heap) (locs : List Loc) (cells slots : Nat) (rest : List Value), o = .inr E → (mi_hh P j).isEmpty = true → mi_R D cl tA b B h' H → va_S (fun q => B ≤ q) s.heap H locs → n0 + cells = h'.1 → s0 + slots = h'.2.1 → H[q9]? = some ce → ce.vm = .none → s.vm.findClass E = some ce.cls → vx_W p l e R s m args below meth c H locs cells slots Q (F0 m pc ls rest) q9) :
    ∀ (n pc : Nat) (lv : mi_L) (st : List Value) (h : mi_H), mi_run P L xs call j n pc lv st h = some (o, h') → ∀ (ls : Array Slot) (H : Heap) (locs : List Loc) (cells slots : Nat), lv_has ls (mi_mx P j) (mi_lm b B lv) → mi_R D cl tA b B h H → va_S (fun q => B ≤ q) s.heap H locs → n0 + cells = h.1 → s0 + slots = h.2.1 →
      W p l e R s m args below meth c H locs cells slots Q (F0 m pc ls (st.map (mi_v b B))) := by
  obtain ⟨har, hcls, hwk, hcl, hj⟩ := hok
  obtain ⟨hplc, hdec, hsok, htok, hcok, -, hstk⟩ := hj j
  have hstr : ∀ ix t, mi_cs P j ix = some (.retAddr t) → ∃ text, vk_R (mi_nm P j).cls ix text (b (t + 1)) s := fun ix t z => by
    obtain ⟨text, hm⟩ := hstk ix t z
    exact ⟨text, hZ.2.2.1 _ hm⟩
  have hcle : ∀ k as g o g', call k as g = some (o, g') → mi_le g g' := fun k as g o g' z => (hcall k as g o g' z).2
  intro n
  induction n with
  | zero => intro pc lv st h hr; cases hr
  | succ n ih =>
    intro pc lv st h hr ls H locs cells slots hl hR hS hn0 hs0
    unfold mi_run at hr
    split at hr
    · cases hr
    · next q hq =>
      -- the end
      cases hr
      unfold mi_step at hq
      split at hq
      · next E hE =>
        split at hq
        · next hst =>
          cases hq
          have hst : st = [] := List.isEmpty_iff.mp hst
          subst hst
          exact KT pc E h ls H locs cells slots rfl hE rfl hl.1 hR hS hn0 hs0
        · cases hq
      · split at hq
        · cases hq
        · next i hi =>
          have hdi := hdec pc i hi
          split at hq
          · cases hq
          · split at hq
            · cases hq
            · split at hq
              · cases hq
              · split at hq
                · cases hq
                · split at hq
                  · next v hv =>
                    cases hq
                    exact KR pc i st v ls H locs cells slots rfl hi hv hR hS hn0 hs0
                  · next hret =>
                    have hsw : mi_sw i = false := by
                      cases hs : mi_sw i with
                      | false => rfl
                      | true =>
                        unfold mi_inv at hq
                        have hz : mi_site P j i = none := by
                          unfold mi_sw at hs
                          unfold mi_site
                          split at hs <;> first | rfl | (cases hs)
                        rw [hz] at hq
                        cases hq
                    refine mi_inv_ok hZT hprim hx hb hml htab hwk hts hown hsok hcok hdec hK hX hbl hbB hZ hR hS hl hfr hlo hcall hq ((mi_dec_ok hdi).1 hsw) hn0 hs0 hRc hRs (fun E g' q9 ce H1 locs1 cells1 slots1 rest e1 hhe r1 r2 z1 z2 hce hcv hcl9 => ?_) (fun pc' lv' st' g' ls' H1 locs1 cells1 slots1 e1 => ?_)
                    · cases e1
                      exact KX pc E q9 ce ls H1 locs1 cells1 slots1 rest rfl hhe r1 r2 z1 z2 hce hcv hcl9
                    · cases e1
    · next q hq =>
      -- one step
      have hle := mi_run_le hcle _ _ _ _ _ _ _ hr
      unfold mi_step at hq
      split at hq
      · split at hq
        · cases hq
        · cases hq
      · split at hq
        · cases hq
        · next i hi =>
          have hdi := hdec pc i hi
          split at hq
          · next st' hst' =>
            cases hq
            have hsw : mi_sw i = false := by
              cases hs : mi_sw i with
              | false => rfl
              | true =>
                unfold mi_sw at hs
                split at hs
                · cases hst'
                · cases hst'
                · cases hs
            exact mi_pure_ok hx hb hst' ((mi_dec_ok hdi).1 hsw) (ih _ _ _ _ hr ls H locs cells slots hl hR hS hn0 hs0)
          · split at hq
            · next q2 hq2 =>
              cases hq
              have hsw : mi_sw i = false := by
                cases hs : mi_sw i with
                | false => rfl
                | true =>
                  unfold mi_sw at hs
                  split at hs
                  · cases hq2
                  · cases hq2
                  · cases hs
              obtain ⟨lv2, st2⟩ := q2
              exact mi_loc_ok hx hb hq2 ((mi_dec_ok hdi).1 hsw) hl (fun ls' hl' => ih _ _ _ _ hr ls' H locs cells slots hl' hR hS hn0 hs0)
            · split at hq
              · next q2 hq2 =>
                cases hq
                obtain ⟨pc2, st2⟩ := q2
                exact mi_jmp_ok hx hb hq2 hdi (ih _ _ _ _ hr ls H locs cells slots hl hR hS hn0 hs0)
              · split at hq
                · next q2 hq2 =>
                  cases hq
                  have hsw : mi_sw i = false := by
                    cases hs : mi_sw i with
                    | false => rfl
                    | true =>
                      unfold mi_sw at hs
                      split at hs
                      · cases hq2
                      · cases hq2
                      · cases hs
                  obtain ⟨st2, h2⟩ := q2
                  have hle : h2.1 ≤ h'.1 ∧ h2.2.1 ≤ h'.2.1 := hle
                  exact mi_heap_ok hx hb hts har hcls hplc hown hname hK hX hbl hbB hR hS hstr hq2 ((mi_dec_ok hdi).1 hsw) hn0 hs0 (by omega) (by omega) (fun H1 locs1 cells1 slots1 r1 r2 z1 z2 => ih _ _ _ _ hr ls H1 locs1 cells1 slots1 hl r1 r2 z1 z2)
                · split at hq
                  · cases hq
                  · have hsw : mi_sw i = false := by
                      cases hs : mi_sw i with
                      | false => rfl
                      | true =>
                        unfold mi_inv at hq
                        have hz : mi_site P j i = none := by
                          unfold mi_sw at hs
                          unfold mi_site
                          split at hs <;> first | rfl | (cases hs)
                        rw [hz] at hq
                        cases hq
                    have hle : (mi_snd (.inl q)).1 ≤ h'.1 ∧ (mi_snd (.inl q)).2.1 ≤ h'.2.1 := hle
                    refine mi_inv_ok hZT hprim hx hb hml htab hwk hts hown hsok hcok hdec hK hX hbl hbB hZ hR hS hl hfr hlo hcall hq ((mi_dec_ok hdi).1 hsw) hn0 hs0 (by omega) (by omega) (fun E g' q9 ce H1 locs1 cells1 slots1 rest e1 => ?_) (fun pc' lv' st' g' ls' H1 locs1 cells1 slots1 e1 hl1 r1 r2 z1 z2 => ?_)
                    · cases e1
                    · cases e1
                      exact ih _ _ _ _ hr ls' H1 locs1 cells1 slots1 hl1 r1 r2 z1 z2
end MiFrame
