/-! The machine does what the small machine does: calls, throws, whole methods. -/
/-- a call's place by its words -/
def mi_sok (GT : List Cond) (cl : List vw_C) (P : mi_P) (own : String) (ix k kind n : Nat) : Prop :=
  kind = 6 ∨ (kind = 3 ∧ Cond.methodLink own ix Lib.objectInit ∈ GT ∧ Cond.instanceMethod Lib.objectInit ∈ GT ∧ Cond.code Lib.objectInit ⟨#[0xb1]⟩ 1 none ∈ GT) ∨
  (kind ≠ 3 ∧ ((mi_nm P k).cls ≠ "java/lang/invoke/MethodHandle" ∧ (mi_nm P k).cls ≠ "java/lang/invoke/VarHandle") ∧ (parseMethodDescriptor (mi_nm P k).desc).map (fun d => d.parameters.length) = some n ∧ Cond.initialized (mi_nm P k).cls ∈ GT ∧ mi_cw P k ∈ GT ∧ mi_mx P k ≤ 45 ∧
    ((kind = 0 ∧ (mi_hh P k).isEmpty = true ∧ Cond.methodLink own ix (mi_nm P k) ∈ GT ∧ Cond.instanceMethod (mi_nm P k) ∈ GT ∧ Cond.selects (mi_nm P k).cls (mi_nm P k) (mi_nm P k) ∈ GT ∧ ∃ (T : u_T) (N : Nat), cl[mi_kc P k]? = some ((mi_nm P k).cls, T, N)) ∨
     (kind = 1 ∧ (mi_hh P k).isEmpty = true ∧ Cond.methodLink own ix (mi_nm P k) ∈ GT ∧ Cond.static (mi_nm P k) ∈ GT) ∨
     (kind = 2 ∧ (mi_hh P k).isEmpty = true ∧ Cond.methodLink own ix (mi_nm P k) ∈ GT ∧ Cond.instanceMethod (mi_nm P k) ∈ GT ∧ (mi_nm P k).name = "<init>" ∧ mi_rt P k = none) ∨
     (kind = 4 ∧ (mi_hh P k).isEmpty = true ∧ (∃ host, Cond.methodLinkNest own ix (mi_nm P k) host ∈ GT) ∧ Cond.static (mi_nm P k) ∈ GT) ∨
     (kind = 5 ∧ (mi_hh P k).isEmpty = false ∧ Cond.methodLink own ix (mi_nm P k) ∈ GT ∧ Cond.static (mi_nm P k) ∈ GT)))
/-- a catch by its words -/
def mi_cok (GT : List Cond) (P : mi_P) (NC : List (String × String)) (j pc : Nat) (E : String) (hp : Nat) : Prop :=
  ∃ (pre : List ExceptionTableEntry) (x : ExceptionTableEntry) (suf : List ExceptionTableEntry) (name : String), tableOf (mi_hh P j) = pre ++ x :: suf ∧ x.handlerPc = hp ∧ covers x pc = true ∧ x.catchType ≠ 0 ∧ Cond.classLink (mi_nm P j).cls x.catchType name ∈ GT ∧ Cond.castable E name ∈ GT ∧
    ∀ z ∈ pre, covers z pc = false ∨ (z.catchType ≠ 0 ∧ ∃ nm : String, Cond.classLink (mi_nm P j).cls z.catchType nm ∈ GT ∧ (E, nm) ∈ NC)
theorem mi_ws_ok {GT : List Cond} {P : mi_P} {k : Nat} {s : State} {args : Array Value} (hwk : ∀ w ∈ GT, mi_wk w = true) (hts : ∀ w ∈ GT, w.before args s = true) (hc : mi_cw P k ∈ GT) : ∀ w ∈ mi_ws GT P k, ∀ (a' : Array Value) (U : State), s.WarmedH U.vm → w.before a' U = true := by
  intro w hw a' U hW
  have hw : w ∈ GT := by
    rcases List.mem_cons.mp hw with h | h
    · rw [h]; exact hc
    · exact h
  exact mi_wk_ok (hwk w hw) hW (hts w hw)
section MiInv
variable {p : Program} {l : Launch} {e : Env} {R : Room} {s : State} {m : MethodId} {args : Array Value} {below : List Frame} {meth : Method} {c : Code} {H : Heap} {locs : List Loc} {cells slots : Nat} {Q : State → Prop}
variable {pc : Nat} {ls : Array Slot} {b : Nat → Nat} {B : Nat} {D : va_G} {cl : List vw_C} {tA : FieldType → ClassId} {GT : List Cond} {P : mi_P} {j d L n0 s0 : Nat} {xs : Nat → Int32} {SK : List (String × Nat × String × Nat)} {NC : List (String × String)} {ZT : State → Prop} {h : mi_H} {lv : mi_L}
theorem mi_recv (hK : va_K D cl (mi_tys tA) s) (hR : mi_R D cl tA b B h H) {a ci : Nat} {fs : List Value} {C : String} {T : u_T} {N : Nat} (hc : cl[ci]? = some (C, T, N)) (ha : a ≠ 0) (hg : mi_get h a = some (.inr (ci, fs))) : ∃ cellB : Cell, H[mi_ad b B a]? = some cellB ∧ cellB.vm.isStatics = false ∧ s.vm.findClass C = some cellB.cls := by
  obtain ⟨cell, g1, g2, g3, -⟩ := (mi_get_ok hR hg ha).1 _ hc
  exact ⟨cell, g1, by rw [g3]; rfl, by rw [g2]; exact (hK.1 ci _ hc).2.1⟩
theorem mi_len_of {y : MethodName} {n : Nat} (hd : (parseMethodDescriptor y.desc).map (fun d => d.parameters.length) = some n) : ∀ sig, parseMethodDescriptor y.desc = some sig → n = sig.parameters.length := by
  intro sig h
  rw [h] at hd
  exact (Option.some.inj hd).symm
theorem mi_caught (hx : p.tables.exec = Jvm.exec) (hb : c.code = mi_cd P j) (htab : c.exceptionTable.toList = tableOf (mi_hh P j)) (hts : ∀ w ∈ GT, w.before args s = true) (hown : s.vm.findClass (mi_nm P j).cls = some m.cls) (hZ : mi_Z b B SK NC ZT s)
    {E : String} {hp : Nat} (hc : mi_cok GT P NC j pc E hp) {q : Addr} {ce : Cell} (hcell : H[q]? = some ce) (hv : ce.vm = .none) (hcl : s.vm.findClass E = some ce.cls) {rest : List Value}
    (kk : W p l e R s m args below meth c H locs cells slots Q (F0 m hp ls [.ref q])) : vx_W p l e R s m args below meth c H locs cells slots Q (F0 m pc ls rest) q := by
  obtain ⟨pre, x, suf, name, hsplit, hhp, hcov, h0, hlink, hcast, hpass⟩ := hc
  intro T hT X
  have hpl : e.platform.magicAccessors = ({} : Platform).magicAccessors := by rw [X.admits.platform]
  obtain ⟨c3, c4, hc3, hc4, hasg⟩ := Cond.castable_spec (hts _ hcast)
  cases Option.some.inj (hc3.symm.trans hcl)
  obtain ⟨c5, hc5, hcl5⟩ := Cond.classLink_spec hown (hts _ hlink) e.platform hpl
  cases Option.some.inj (hc4.symm.trans hc5)
  have hk0 : ∃ k, s.vm.classes[ce.cls]? = some k := by obtain ⟨k9, h9, -⟩ := Vm.findClass_spec hcl; exact ⟨k9, h9⟩
  obtain ⟨vm', hW', hq⟩ := mi_search (e := e) (s₀ := s) (f := F0 m pc ls rest) (a := q) (cell := ce) (by rw [hv]; intro k z; cases z) hk0 x suf hcov h0 hcl5 hasg pre ((T.setTop (F0 m pc ls rest)).pushFrame (.throwing q)) X.warmed (by show T.heap[q]? = some ce; rw [hT]; exact hcell)
    (fun z hz => by
      rcases hpass z hz with h | ⟨hz0, nm, hl1, hn1⟩
      · exact Or.inl h
      · obtain ⟨c6, hc6, hcl6⟩ := Cond.classLink_spec hown (hts _ hl1) e.platform hpl
        obtain ⟨a8, b8, h1, h2, h3⟩ := hZ.2.2.2.1 _ hn1
        cases Option.some.inj (h1.symm.trans hcl)
        cases Option.some.inj (h2.symm.trans hc6)
        exact Or.inr ⟨hz0, _, hcl6, h3⟩)
  obtain ⟨t, a1, b1⟩ := kk (T.setVm vm') hT (X.noted hW')
  refine ⟨t, mi_caughtTo (s := T) (g := F0 m pc ls rest) (c := c) (vm' := vm') (pc := x.handlerPc) X.here (fun Q E d acts => ?_) ?_, b1⟩
  · rw [W.findHandler_eq (meth := meth) (code := c) X.method' X.code, htab, hsplit]
    exact hq Q E d acts
  · rw [hhp]
    exact a1
/-- members of texts answer as the program's table says -/
def mi_prim (b : Nat → Nat) (B : Nat) (GT : List Cond) (P : mi_P) (ZT : State → Prop) : Prop :=
  ∀ (p : Program) (l : Launch) (e : Env) (R : Room) (s : State) (m : MethodId) (args : Array Value) (below : List Frame) (meth : Method) (c : Code) (Q : State → Prop) (j ix k n t pc : Nat) (as r : List Value) (v : Value) (ls : Array Slot) (H : Heap) (locs : List Loc) (cells slots : Nat),
    p.tables.exec = Jvm.exec → c.code = mi_cd P j → c.maxLocals = ls.size → s.vm.findClass (mi_nm P j).cls = some m.cls → (∀ w ∈ GT, w.before args s = true) → ZT s → va_S (fun q => B ≤ q) s.heap H locs → 10 ≤ R.frames → 200 ≤ R.locals → cells ≤ R.cells → slots ≤ R.slots →
    mi_iv P j ix = some (k, 6, n) → as.length = n → mi_pr P k (.retAddr t :: as) = some v → (r.map fun v => v.category).sum ≤ 8 → decode (mi_cd P j) pc = .ok (.invokevirtual ix, 3) →
    W p l e R s m args below meth c H locs cells slots Q (F0 m (pc + 3) ls ((v :: r).map (mi_v b B))) → W p l e R s m args below meth c H locs cells slots Q (F0 m pc ls ((as.reverse ++ .retAddr t :: r).map (mi_v b B)))
set_option maxHeartbeats 4000000 in
theorem mi_inv_ok (hZT : mi_sta B ZT) (hprim : mi_prim b B GT P ZT) (hx : p.tables.exec = Jvm.exec) (hb : c.code = mi_cd P j) (hml : c.maxLocals = mi_mx P j) (htab : c.exceptionTable.toList = tableOf (mi_hh P j)) (hwk : ∀ w ∈ GT, mi_wk w = true) (hts : ∀ w ∈ GT, w.before args s = true) (hown : s.vm.findClass (mi_nm P j).cls = some m.cls)
    (hsok : ∀ ix k kind n, mi_iv P j ix = some (k, kind, n) → mi_sok GT cl P (mi_nm P j).cls ix k kind n) (hcok : ∀ pc E hp, mi_ca P j pc E = some hp → mi_cok GT P NC j pc E hp) (hdec : ∀ pc i, mi_is P j pc = some i → mi_dec (mi_cd P j) pc = some i)
    (hK : va_K D cl (mi_tys tA) s) (hX : va_X (b 0) L xs s s.heap) (hbl : b 0 < s.heap.size) (hbB : b 0 < B) (hZ : mi_Z b B SK NC ZT s) (hR : mi_R D cl tA b B h H) (hS : va_S (fun q => B ≤ q) s.heap H locs) (hl : lv_has ls (mi_mx P j) (mi_lm b B lv))
    (hfr : 10 + d + 1 ≤ R.frames) (hlo : 200 + 64 * (d + 1) ≤ R.locals) {call : mi_C} (hcall : ∀ k as g o g', call k as g = some (o, g') → mi_Met D cl tA b B L xs SK NC ZT GT P l d k as g o g' ∧ mi_le g g')
    {i : Instr} {st : List Value} {q : mi_S} (hi : mi_inv P call j i pc lv st h = some q) (hd : decode (mi_cd P j) pc = .ok (i, mi_len i)) (hn0 : n0 + cells = h.1) (hs0 : s0 + slots = h.2.1) (hRc : (mi_snd q).1 ≤ n0 + R.cells) (hRs : (mi_snd q).2.1 ≤ s0 + R.slots)
    (kx : ∀ (E : String) (g' : mi_H) (q9 : Addr) (ce : Cell) (H1 : Heap) (locs1 : List Loc) (cells1 slots1 : Nat) (rest : List Value), q = .inr (.inr E, g') → (mi_hh P j).isEmpty = true → mi_R D cl tA b B g' H1 → va_S (fun q => B ≤ q) s.heap H1 locs1 → n0 + cells1 = g'.1 → s0 + slots1 = g'.2.1 → H1[q9]? = some ce → ce.vm = .none → s.vm.findClass E = some ce.cls → vx_W p l e R s m args below meth c H1 locs1 cells1 slots1 Q (F0 m pc ls rest) q9)
    (kk : ∀ (pc' : Nat) (lv' : mi_L) (st' : List Value) (g' : mi_H) (ls' : Array Slot) (H1 : Heap) (locs1 : List Loc) (cells1 slots1 : Nat), q = .inl (pc', lv', st', g') → lv_has ls' (mi_mx P j) (mi_lm b B lv') → mi_R D cl tA b B g' H1 → va_S (fun q => B ≤ q) s.heap H1 locs1 → n0 + cells1 = g'.1 → s0 + slots1 = g'.2.1 → W p l e R s m args below meth c H1 locs1 cells1 slots1 Q (F0 m pc' ls' (st'.map (mi_v b B)))) : W p l e R s m args below meth c H locs cells slots Q (F0 m pc ls (st.map (mi_v b B))) := by
  unfold mi_inv at hi
  split at hi
  · cases hi
  · next k kind n ix hsite =>
    -- the place and its instruction
    obtain ⟨hiv, hins⟩ : mi_iv P j ix = some (k, kind, n) ∧ ((i = .invokevirtual ix ∧ (kind = 0 ∨ kind = 6)) ∨ (i = .invokestatic ix ∧ (kind = 1 ∨ kind = 4 ∨ kind = 5)) ∨ (i = .invokespecial ix ∧ (kind = 2 ∨ kind = 3))) := by
      unfold mi_site at hsite
      split at hsite
      · split at hsite
        · next hv =>
          split at hsite
          · next hk => cases hsite; exact ⟨hv, Or.inl ⟨rfl, hk⟩⟩
          · cases hsite
        · cases hsite
      · split at hsite
        · next hv =>
          split at hsite
          · next hk => cases hsite; exact ⟨hv, Or.inr (Or.inl ⟨rfl, hk⟩)⟩
          · cases hsite
        · cases hsite
      · split at hsite
        · next hv =>
          split at hsite
          · next hk => cases hsite; exact ⟨hv, Or.inr (Or.inr ⟨rfl, hk⟩)⟩
          · cases hsite
        · cases hsite
      · cases hsite
    have hso := hsok ix k kind n hiv
    split at hi
    · next hk3 =>
      subst hk3
      split at hi
      · next a r =>
        split at hi
        · next hw =>
          cases hi
          obtain ⟨-, w1, w2, w3⟩ : (3 : Nat) = 3 ∧ Cond.methodLink (mi_nm P j).cls ix Lib.objectInit ∈ GT ∧ Cond.instanceMethod Lib.objectInit ∈ GT ∧ Cond.code Lib.objectInit ⟨#[0xb1]⟩ 1 none ∈ GT := by
            rcases hso with z | z | ⟨z, -⟩
            · omega
            · exact z
            · exact absurd rfl z
          have hi3 : i = .invokespecial ix := by
            rcases hins with ⟨-, z⟩ | ⟨-, z⟩ | ⟨z, -⟩
            · omega
            · omega
            · exact z
          subst hi3
          refine W.objInit hx hb hown (hts _ w1) (hts _ w2) (hts _ w3) rfl (by rw [hml]; exact hl.1) (a := mi_ad b B a) (rest := r.map (mi_v b B)) rfl hd (by omega) ?_ ?_
          · have z9 : ((r.map (mi_v b B)).map fun v => v.category).sum ≤ 8 := by rw [mi_cats]; exact hw
            show 2 * 0 + ((r.map (mi_v b B)).map fun v => v.category).sum + 12 ≤ R.locals
            omega
          · exact kk _ _ _ _ ls H locs cells slots rfl hl hR hS hn0 hs0
        · cases hi
      · cases hi
    · next hk3 =>
      split at hi
      · next hk6 =>
        subst hk6
        split at hi
        · next t as r htg =>
          split at hi
          · next hw =>
            split at hi
            · next v hv =>
              cases hi
              have hi6 : i = .invokevirtual ix := by
                rcases hins with ⟨z, -⟩ | ⟨-, z⟩ | ⟨-, z⟩
                · exact z
                · omega
                · omega
              subst hi6
              unfold mi_targs at htg
              split at htg
              · next t' r' hdrop =>
                cases htg
                have hst : st = st.take n ++ .retAddr t :: r := by rw [← hdrop, List.take_append_drop]
                have hlt : n < st.length := by
                  rcases Nat.lt_or_ge n st.length with z | z
                  · exact z
                  · rw [List.drop_eq_nil_of_le z] at hdrop; cases hdrop
                have e9 : (st.take n).reverse.reverse ++ .retAddr t :: r = st := by rw [List.reverse_reverse]; exact hst.symm
                have hgo := hprim p l e R s m args below meth c Q j ix k n t pc (st.take n).reverse r v ls H locs cells slots hx hb (by rw [hml]; exact hl.1.symm) hown hts hZ.2.2.2.2 hS (by omega) (by omega) (by have : h.1 ≤ n0 + R.cells := hRc; omega) (by have : h.2.1 ≤ s0 + R.slots := hRs; omega) hiv (by simp; omega) hv hw hd (kk _ _ _ _ ls H locs cells slots rfl hl hR hS hn0 hs0)
                rw [e9] at hgo
                exact hgo
              · cases htg
            · cases hi
          · cases hi
        · cases hi
      next hk6 =>
      obtain ⟨-, hMH, hlen, hini, hcw, hmx, hso⟩ : kind ≠ 3 ∧ ((mi_nm P k).cls ≠ "java/lang/invoke/MethodHandle" ∧ (mi_nm P k).cls ≠ "java/lang/invoke/VarHandle") ∧ (parseMethodDescriptor (mi_nm P k).desc).map (fun d => d.parameters.length) = some n ∧ Cond.initialized (mi_nm P k).cls ∈ GT ∧ mi_cw P k ∈ GT ∧ mi_mx P k ≤ 45 ∧ _ := by
        rcases hso with z | ⟨z, -⟩ | z
        · exact absurd z hk6
        · exact absurd z hk3
        · exact z
      split at hi
      · cases hi
      · next as r has =>
        split at hi
        · next hwr =>
          obtain ⟨hw, hrc⟩ := hwr
          -- the callee's outcome
          cases hca : call k as h with
          | none => rw [hca] at hi; cases hi
          | some og =>
            obtain ⟨o, g⟩ := og
            rw [hca] at hi
            obtain ⟨hM, hle⟩ := hcall k as h o g hca
            have hmono : h.1 ≤ g.1 ∧ h.2.1 ≤ g.2.1 := hle
            have hgq : mi_snd q = g := by
              cases o with
              | inl v => cases hi; rfl
              | inr E =>
                have hi : (if kind = 2 ∨ kind = 4 then none else mi_exc P j pc lv E g) = some q := hi
                split at hi
                · cases hi
                · exact mi_exc_le hi
            rw [hgq] at hRc hRs
            have hws := mi_ws_ok (k := k) hwk hts hcw
            have hW8 : 2 * (0 : Nat) + ((r.map (mi_v b B)).map fun v => v.category).sum ≤ 8 := by rw [mi_cats]; have : mi_wt r ≤ 8 := hw; unfold mi_wt at this; omega
            have hfit : cells + (g.1 - h.1) ≤ R.cells ∧ slots + (g.2.1 - h.2.1) ≤ R.slots := by omega
            have hroom : (mi_rm d h g).frames + 1 ≤ R.frames ∧ 8 + (mi_mx P k + 11) + (mi_rm d h g).locals ≤ R.locals := by
              show 10 + d + 1 ≤ R.frames ∧ 8 + (mi_mx P k + 11) + (200 + 64 * d) ≤ R.locals
              omega
            have e1 : n0 + (cells + (g.1 - h.1)) = g.1 := by omega
            have e2 : s0 + (slots + (g.2.1 - h.2.1)) = g.2.1 := by omega
            have S : CallFix p m c (mi_cd P j) (mi_mx P j) s args GT (mi_nm P j).cls := ⟨hx, hb, hml, hown, hts⟩
            have hcode : (mi_hh P k).isEmpty = true → Cond.code (mi_nm P k) (mi_cd P k) (mi_mx P k) (mi_rt P k) ∈ mi_ws GT P k ∧ (Cond.code (mi_nm P k) (mi_cd P k) (mi_mx P k) (mi_rt P k)).before args s = true := by
              intro z
              have : mi_cw P k = Cond.code (mi_nm P k) (mi_cd P k) (mi_mx P k) (mi_rt P k) := by unfold mi_cw; rw [if_pos z]
              rw [← this]
              exact ⟨List.mem_cons_self, hts _ hcw⟩
            -- what follows the call
            have fin : ∀ (st0 : List Value) (a9 : Array Value), st0 = st.map (mi_v b B) → (kind = 2 ∨ kind = 4 → ∃ v, o = .inl v) →
                vx_Run p l e R s m args below meth c H locs cells slots (g.1 - h.1) (g.2.1 - h.2.1) (F0 m pc ls st0) (r.map (mi_v b B)) (mi_QO D cl tA b B o g a9) (mi_XO D cl tA b B o g) (fun q => B ≤ q) → W p l e R s m args below meth c H locs cells slots Q (F0 m pc ls (st.map (mi_v b B))) := by
              intro st0 a9 hst hno hr
              rw [← hst]
              refine mi_after hr hS (fun E ce q9 H1 locs1 ho r1 r2 hce hcv hcl9 => ?_) (fun v H1 locs1 ho r1 r2 => ?_)
              · subst ho
                have hi : (if kind = 2 ∨ kind = 4 then none else mi_exc P j pc lv E g) = some q := hi
                split at hi
                · cases hi
                · unfold mi_exc at hi
                  split at hi
                  · split at hi
                    · next hhe => exact kx E g q9 ce H1 locs1 _ _ _ (Option.some.inj hi).symm hhe r1 r2 e1 e2 hce hcv hcl9
                    · cases hi
                  · next hp hcaught =>
                    have hco := hcok pc E hp hcaught
                    split at hi
                    · next qn hins2 =>
                      split at hi
                      · next hlt =>
                        have hd2 := (mi_dec_ok (hdec hp _ hins2)).1 rfl
                        refine mi_caught hx hb htab hts hown hZ hco hce hcv hcl9 ?_
                        refine lv_astore_n hx hb hd2 rfl hl hlt rfl (fun ls' hl' => ?_)
                        refine kk _ _ _ _ ls' H1 locs1 _ _ (Option.some.inj hi).symm ?_ r1 r2 e1 e2
                        refine ⟨hl'.1, hl'.2.1, fun z hz => hl'.2.2 z (List.mem_cons_of_mem _ ?_)⟩
                        unfold mi_sub mi_lm at hz
                        unfold mi_lm
                        obtain ⟨y, hy, rfl⟩ := List.mem_map.mp hz
                        obtain ⟨hy1, hy2⟩ := List.mem_filter.mp hy
                        refine List.mem_filter.mpr ⟨List.mem_map.mpr ⟨y, hy1, rfl⟩, ?_⟩
                        simpa only [mi_v_cat] using hy2
                      · cases hi
                    · next qn hins2 =>
                      split at hi
                      · next hlt =>
                        have hd2 := (mi_dec_ok (hdec hp _ hins2)).1 rfl
                        refine mi_caught hx hb htab hts hown hZ hco hce hcv hcl9 ?_
                        refine lv_astore hx hb hd2 hl hlt rfl (fun ls' hl' => ?_)
                        refine kk _ _ _ _ ls' H1 locs1 _ _ (Option.some.inj hi).symm ?_ r1 r2 e1 e2
                        refine ⟨hl'.1, hl'.2.1, fun z hz => hl'.2.2 z (List.mem_cons_of_mem _ ?_)⟩
                        unfold mi_sub mi_lm at hz
                        unfold mi_lm
                        obtain ⟨y, hy, rfl⟩ := List.mem_map.mp hz
                        obtain ⟨hy1, hy2⟩ := List.mem_filter.mp hy
                        refine List.mem_filter.mpr ⟨List.mem_map.mpr ⟨y, hy1, rfl⟩, ?_⟩
                        simpa only [mi_v_cat] using hy2
                      · cases hi
                    · cases hi
              · subst ho
                exact kk _ _ _ _ ls H1 locs1 _ _ (Option.some.inj hi).symm hl r1 r2 e1 e2
            have hno : kind = 2 ∨ kind = 4 → ∃ v, o = .inl v := by
              intro z
              cases o with
              | inl v => exact ⟨v, rfl⟩
              | inr E =>
                have hi : (if kind = 2 ∨ kind = 4 then none else mi_exc P j pc lv E g) = some q := hi
                rw [if_pos z] at hi
                cases hi
            unfold mi_cargs at has
            split at has
            · next hk02 =>
              split at has
              · next a r' hdrop =>
                cases has
                have hst : st = st.take n ++ .ref a :: r := by rw [← hdrop, List.take_append_drop]
                have hln : ((st.take n).reverse.map (mi_v b B)).length = n := by
                  have : n < st.length := by
                    rcases Nat.lt_or_ge n st.length with z | z
                    · exact z
                    · rw [List.drop_eq_nil_of_le z] at hdrop; cases hdrop
                  simp
                  omega
                have hstk : st.map (mi_v b B) = ((st.take n).reverse.map (mi_v b B)).reverse ++ .ref (mi_ad b B a) :: r.map (mi_v b B) := by
                  conv => lhs; rw [hst]
                  simp [mi_v]
                rcases hk02 with hk0 | hk2
                · subst hk0
                  have hi0 : i = .invokevirtual ix := by
                    rcases hins with ⟨z, -⟩ | ⟨-, z⟩ | ⟨-, z⟩
                    · exact z
                    · omega
                    · omega
                  subst hi0
                  obtain ⟨-, hhe, w1, w2, w3, T, N, hc⟩ : (0 : Nat) = 0 ∧ (mi_hh P k).isEmpty = true ∧ Cond.methodLink (mi_nm P j).cls ix (mi_nm P k) ∈ GT ∧ Cond.instanceMethod (mi_nm P k) ∈ GT ∧ Cond.selects (mi_nm P k).cls (mi_nm P k) (mi_nm P k) ∈ GT ∧ ∃ (T : u_T) (N : Nat), cl[mi_kc P k]? = some ((mi_nm P k).cls, T, N) := by
                    rcases hso with z | ⟨z, -⟩ | ⟨z, -⟩ | ⟨z, -⟩ | ⟨z, -⟩
                    · exact z
                    all_goals omega
                  obtain ⟨ha0, fs, hga⟩ : a ≠ 0 ∧ ∃ fs, mi_get h a = some (.inr (mi_kc P k, fs)) := by
                    have z := hrc rfl
                    unfold mi_rc at z
                    dsimp only at z
                    split at z
                    · next ci fs hg =>
                      simp only [Bool.and_eq_true, decide_eq_true_eq] at z
                      obtain ⟨z1, z2⟩ := z
                      subst z2
                      exact ⟨z1, fs, hg⟩
                    · cases z
                  refine fin _ (Value.ref (mi_ad b B a) :: (st.take n).reverse.map (mi_v b B)).toArray hstk.symm hno ?_
                  exact vx_runV (C := (mi_nm P k).cls) (bytes := mi_cd P k) (maxL := mi_mx P k) (ret := mi_rt P k) (b := mi_ad b B a) (As := (st.take n).reverse.map (mi_v b B)) S hM ⟨⟨rfl, rfl, hroom.1, hroom.2, hws, (hcode hhe).1, (hcode hhe).2, hts _ hini, hMH, mi_len_of hlen, hts _ w1⟩, hts _ w2, hts _ w3⟩
                    ⟨mi_blind hZT _, mi_recv hK hR hc ha0 hga, fun U hU hW => mi_pre hZT hK hX hbl hbB hZ hR hS (.ref a :: (st.take n).reverse) U hU hW⟩ rfl hln hl.1 rfl hW8 hd hfit
                · subst hk2
                  have hi0 : i = .invokespecial ix := by
                    rcases hins with ⟨-, z⟩ | ⟨-, z⟩ | ⟨z, -⟩
                    · omega
                    · omega
                    · exact z
                  subst hi0
                  obtain ⟨-, hhe, w1, w2, w3, w4⟩ : (2 : Nat) = 2 ∧ (mi_hh P k).isEmpty = true ∧ Cond.methodLink (mi_nm P j).cls ix (mi_nm P k) ∈ GT ∧ Cond.instanceMethod (mi_nm P k) ∈ GT ∧ (mi_nm P k).name = "<init>" ∧ mi_rt P k = none := by
                    rcases hso with ⟨z, -⟩ | ⟨z, -⟩ | z | ⟨z, -⟩ | ⟨z, -⟩
                    · omega
                    · omega
                    · exact z
                    all_goals omega
                  obtain ⟨v, rfl⟩ := hno (Or.inl rfl)
                  have hcn := hcode hhe
                  rw [w4] at hcn
                  refine fin _ (Value.ref (mi_ad b B a) :: (st.take n).reverse.map (mi_v b B)).toArray hstk.symm hno (mi_vaRun ?_)
                  exact va_runI (bytes := mi_cd P k) (maxL := mi_mx P k) (b := mi_ad b B a) (As := (st.take n).reverse.map (mi_v b B)) S (mi_noX hM) ⟨⟨rfl, rfl, hroom.1, hroom.2, hws, hcn.1, hcn.2, hts _ hini, hMH, mi_len_of hlen, hts _ w1⟩, w3, hts _ w2⟩
                    ⟨mi_blind hZT _, fun U hU hW => mi_pre hZT hK hX hbl hbB hZ hR hS (.ref a :: (st.take n).reverse) U hU hW⟩ rfl hln hl.1 rfl hW8 hd hfit
              · cases has
            · next hk02 =>
              split at has
              · next hle9 =>
                cases has
                have hln : ((st.take n).reverse.map (mi_v b B)).length = n := by
                  simp
                  omega
                have hstk : st.map (mi_v b B) = ((st.take n).reverse.map (mi_v b B)).reverse ++ (st.drop n).map (mi_v b B) := by
                  conv => lhs; rw [← List.take_append_drop n st]
                  simp
                have hi0 : i = .invokestatic ix := by
                  rcases hins with ⟨-, z⟩ | ⟨z, -⟩ | ⟨-, z⟩
                  · rcases z with z | z
                    · exact absurd (Or.inl z) hk02
                    · exact absurd z hk6
                  · exact z
                  · rcases z with z | z
                    · exact absurd (Or.inr z) hk02
                    · exact absurd z hk3
                subst hi0
                rcases hso with ⟨z, -⟩ | ⟨z, hhe, w1, w2⟩ | ⟨z, -⟩ | ⟨z, hhe, ⟨host, w1⟩, w2⟩ | ⟨z, hhe, w1, w2⟩
                · exact absurd (Or.inl z) hk02
                · refine fin _ ((st.take n).reverse.map (mi_v b B)).toArray hstk.symm hno ?_
                  exact vx_runS (bytes := mi_cd P k) (maxL := mi_mx P k) (ret := mi_rt P k) (As := (st.take n).reverse.map (mi_v b B)) S hM ⟨⟨rfl, rfl, hroom.1, hroom.2, hws, (hcode hhe).1, (hcode hhe).2, hts _ hini, hMH, mi_len_of hlen, hts _ w1⟩, hts _ w2⟩
                    ⟨mi_blind hZT _, fun U hU hW => mi_pre hZT hK hX hbl hbB hZ hR hS ((st.take n).reverse) U hU hW⟩ rfl hln hl.1 rfl hW8 hd hfit
                · exact absurd (Or.inr z) hk02
                · obtain ⟨v, rfl⟩ := hno (Or.inr z)
                  refine fin _ ((st.take n).reverse.map (mi_v b B)).toArray hstk.symm hno (mi_vaRun ?_)
                  exact va_runSN (host := host) (bytes := mi_cd P k) (maxL := mi_mx P k) (ret := mi_rt P k) (As := (st.take n).reverse.map (mi_v b B)) S (mi_noX hM) ⟨⟨⟨rfl, rfl, hroom.1, hroom.2, hws, (hcode hhe).1⟩, (hcode hhe).2, hts _ hini, hMH, mi_len_of hlen, hts _ w1⟩, hts _ w2, trivial⟩
                    ⟨mi_blind hZT _, fun U hU hW => mi_pre hZT hK hX hbl hbB hZ hR hS ((st.take n).reverse) U hU hW⟩ rfl hln hl.1 rfl hW8 hd hfit
                · have hcwx : mi_cw P k = Cond.codeWith (mi_nm P k) (mi_cd P k) (mi_mx P k) (mi_rt P k) (mi_hh P k) := by unfold mi_cw; rw [if_neg (by rw [hhe]; decide)]
                  refine fin _ ((st.take n).reverse.map (mi_v b B)).toArray hstk.symm hno ?_
                  exact vx_runSX (hh := mi_hh P k) (bytes := mi_cd P k) (maxL := mi_mx P k) (ret := mi_rt P k) (As := (st.take n).reverse.map (mi_v b B)) S hM ⟨⟨rfl, rfl, hroom.1, hroom.2, hws, by rw [← hcwx]; exact List.mem_cons_self⟩, by rw [← hcwx]; exact hts _ hcw, hts _ hini, hMH, mi_len_of hlen, hts _ w1, hts _ w2⟩
                    ⟨mi_blind hZT _, fun U hU hW => mi_pre hZT hK hX hbl hbB hZ hR hS ((st.take n).reverse) U hU hW⟩ rfl hln hl.1 rfl hW8 hd hfit
              · cases has
        · cases hi
end MiInv
