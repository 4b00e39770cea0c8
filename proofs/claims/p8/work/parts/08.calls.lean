/-! Calls of the small machine: contracts, and what a call comes to. -/
/-- words that stay true in warmer tables -/
def mi_wk (w : Cond) : Bool := goodWord w || (match w with
  | .castable _ _ => true
  | .methodLinkNest _ _ _ _ => true
  | .declares _ => true
  | _ => false)
theorem mi_wk_ok {w : Cond} {s U : State} {A A' : Array Value} (hg : mi_wk w = true) (hW : s.WarmedH U.vm) (h : w.before A s = true) : w.before A' U = true := by
  by_cases hG : goodWord w = true
  · exact word_at hW (good_of_word hG) h
  · unfold mi_wk at hg
    rw [Bool.or_eq_true] at hg
    rcases hg with hg | hg
    · exact absurd hg hG
    · split at hg
      · exact va_Nw.use rfl (va_Nw.warmC hW (va_Nw.of rfl h))
      · exact va_Nw.use rfl (va_Nw.warmM hW (va_Nw.of rfl h))
      · exact va_Nw.use rfl (va_Nw.warmD hW (va_Nw.of rfl h))
      · cases hg
/-- what a throw needs of the start: two statics of Throwable, the texts -/
def mi_Z (b : Nat → Nat) (B : Nat) (SK : List (String × Nat × String × Nat)) (NC : List (String × String)) (ZT : State → Prop) (U : State) : Prop :=
  vx_Zq Bundle.tN "UNASSIGNED_STACK" Bundle.steD (fun q => B ≤ q) U U.heap ∧ vx_Zq Bundle.tN "SUPPRESSED_SENTINEL" Bundle.listD (fun q => B ≤ q) U U.heap ∧ (∀ q ∈ SK, vk_R q.1 q.2.1 q.2.2.1 (b (q.2.2.2 + 1)) U) ∧ (∀ q ∈ NC, va_Nc q.1 q.2 U) ∧ ZT U
/-- what is said of the texts stays true while old cells stay -/
def mi_sta (B : Nat) (ZT : State → Prop) : Prop := ∀ (s U : State) (H : Heap) (locs : List Loc), ZT s → va_S (fun q => B ≤ q) s.heap H locs → U.heap = H → s.WarmedH U.vm → ZT U
theorem mi_Z.next {b : Nat → Nat} {B : Nat} {SK : List (String × Nat × String × Nat)} {NC : List (String × String)} {ZT : State → Prop} {s U : State} {H : Heap} {locs : List Loc} (hZT : mi_sta B ZT) (hz : mi_Z b B SK NC ZT s) (hS : va_S (fun q => B ≤ q) s.heap H locs) (hU : U.heap = H) (hW : s.WarmedH U.vm) : mi_Z b B SK NC ZT U := by
  refine ⟨?_, ?_, fun q hq => vk_R.warm hW (hz.2.2.1 q hq), fun q hq => va_Nc.moved hW.alike (hz.2.2.2.1 q hq), hZT s U H locs hz.2.2.2.2 hS hU hW⟩
  · rw [hU]; exact vx_Zq.moved hW.alike (hz.1.kept hS.2.1)
  · rw [hU]; exact vx_Zq.moved hW.alike (hz.2.1.kept hS.2.1)
section MiMet
variable (D : va_G) (cl : List vw_C) (tA : FieldType → ClassId) (b : Nat → Nat) (B L : Nat) (xs : Nat → Int32) (SK : List (String × Nat × String × Nat)) (NC : List (String × String)) (ZT : State → Prop) (GT : List Cond) (P : mi_P)
/-- a method's start: its arguments, the heap -/
def mi_Pc (as : List Value) (h : mi_H) : Array Value → State → Prop := fun v U =>
  v = (as.map (mi_v b B)).toArray ∧ mi_R D cl tA b B h U.heap ∧ va_K D cl (mi_tys tA) U ∧ va_X (b 0) L xs U U.heap ∧ b 0 < U.heap.size ∧ mi_Z b B SK NC ZT U
def mi_QO (o : mi_O) (h : mi_H) : Array Value → State → Outcome → State → Prop := fun _ st oc t => ∃ v : Option Value, o = .inl v ∧ oc = .returned (v.map (mi_v b B)) ∧ mi_R D cl tA b B h t.heap ∧ va_F (fun q => B ≤ q) st t
def mi_XO (o : mi_O) (h : mi_H) : String → State → State → Prop := fun E st t => o = .inr E ∧ mi_R D cl tA b B h t.heap ∧ va_F (fun q => B ≤ q) st t
def mi_cw (j : Nat) : Cond := if (mi_hh P j).isEmpty = true then .code (mi_nm P j) (mi_cd P j) (mi_mx P j) (mi_rt P j) else .codeWith (mi_nm P j) (mi_cd P j) (mi_mx P j) (mi_rt P j) (mi_hh P j)
def mi_ws (j : Nat) : List Cond := mi_cw P j :: GT
def mi_rm (d : Nat) (h h' : mi_H) : Room := { frames := 10 + d, cells := h'.1 - h.1, slots := h'.2.1 - h.2.1, locals := 200 + 64 * d }
/-- the contract of a call that the small machine has run -/
def mi_Met (l : Launch) (d j : Nat) (as : List Value) (h : mi_H) (o : mi_O) (h' : mi_H) : Prop :=
  vx_Met l (mi_nm P j) (mi_ws GT P j) (mi_rm d h h') (mi_Pc D cl tA b B L xs SK NC ZT as h) (mi_QO D cl tA b B o h') (mi_XO D cl tA b B o h') (h'.1 - h.1) (h'.2.1 - h.2.1) (fun q => B ≤ q)
end MiMet
section MiCall
variable {p : Program} {l : Launch} {e : Env} {R : Room} {s : State} {m : MethodId} {args : Array Value} {below : List Frame} {meth : Method} {c : Code} {H : Heap} {locs : List Loc} {cells slots : Nat} {Q : State → Prop}
variable {cc : ByteArray} {pc nL : Nat} {ls : Array Slot} {b : Nat → Nat} {B : Nat} {D : va_G} {cl : List vw_C} {tA : FieldType → ClassId} {GT : List Cond} {P : mi_P} {L : Nat} {xs : Nat → Int32} {SK : List (String × Nat × String × Nat)} {NC : List (String × String)} {ZT : State → Prop} {h h' : mi_H} {o : mi_O} {r : List Value}
theorem mi_blind (hZT : mi_sta B ZT) (as : List Value) : FrameBlind (mi_Pc D cl tA b B L xs SK NC ZT as h) := by
  intro a U g mk hp
  obtain ⟨h1, h2, h3, h4, h5, h6⟩ := hp
  refine ⟨h1, h2, va_K.moved (u := U) (U := U.calling g mk a) (Vm.Alike.refl U.vm) h3, va_X.moved (u := U) (U := U.calling g mk a) (Vm.Alike.refl U.vm) h4, h5, ?_⟩
  exact mi_Z.next (H := U.heap) (locs := []) hZT h6 va_S.rf rfl (State.WarmedH.refl U)
theorem mi_pre (hZT : mi_sta B ZT) (hK : va_K D cl (mi_tys tA) s) (hX : va_X (b 0) L xs s s.heap) (hbl : b 0 < s.heap.size) (hbB : b 0 < B) (hZ : mi_Z b B SK NC ZT s) (hR : mi_R D cl tA b B h H) (hS : va_S (fun q => B ≤ q) s.heap H locs) (as : List Value) (U : State) (hU : U.heap = H) (hW : s.WarmedH U.vm) : mi_Pc D cl tA b B L xs SK NC ZT as h (as.map (mi_v b B)).toArray U := by
  refine ⟨rfl, by rw [hU]; exact hR, va_K.moved hW.alike hK, ?_, by rw [hU]; exact Nat.lt_of_lt_of_le hbl hS.1, mi_Z.next hZT hZ hS hU hW⟩
  rw [hU]
  exact va_X.moved hW.alike (hX.kept (hS.2.1 (b 0) hbl (Nat.not_le.mpr hbB)))
/-- a call that returns or throws, as the small machine has run it -/
theorem mi_after {mc ms : Nat} {a : Array Value} {st0 : List Value} (hr : vx_Run p l e R s m args below meth c H locs cells slots mc ms (F0 m pc ls st0) (r.map (mi_v b B)) (mi_QO D cl tA b B o h' a) (mi_XO D cl tA b B o h') (fun q => B ≤ q)) (hS : va_S (fun q => B ≤ q) s.heap H locs)
    (kx : ∀ (E : String) (ce : Cell) (q : Addr) (H1 : Heap) (locs1 : List Loc), o = .inr E → mi_R D cl tA b B h' H1 → va_S (fun q => B ≤ q) s.heap H1 locs1 → H1[q]? = some ce → ce.vm = .none → s.vm.findClass E = some ce.cls → vx_W p l e R s m args below meth c H1 locs1 (cells + mc) (slots + ms) Q (F0 m pc ls (r.map (mi_v b B))) q)
    (kk : ∀ (v : Option Value) (H1 : Heap) (locs1 : List Loc), o = .inl v → mi_R D cl tA b B h' H1 → va_S (fun q => B ≤ q) s.heap H1 locs1 → W p l e R s m args below meth c H1 locs1 (cells + mc) (slots + ms) Q (F0 m (pc + 3) ls ((v.toList ++ r).map (mi_v b B)))) : W p l e R s m args below meth c H locs cells slots Q (F0 m pc ls st0) := by
  intro T hT X
  rcases hr T hT X with ⟨v, st₀, t, T', L', h0, X', hL, e1, e2, ⟨v2, ho, hv, hR1, hF⟩, st⟩ | ⟨q, st₀, t, T', L', E, ce, h0, X', hL, e1, e2, ⟨ho, hR1, hF⟩, hce, hcv, hcl, st⟩
  · cases hv
    obtain ⟨k1, k2, k3⟩ := vx_keep h0 e1 hS (fun _ _ z => z) (fun _ z => z) hL hF
    have hst : (v2.map (mi_v b B)).toList ++ r.map (mi_v b B) = (v2.toList ++ r).map (mi_v b B) := by cases v2 <;> simp
    obtain ⟨t2, a1, b1⟩ := kk v2 T'.heap (locs ++ L') ho (by rw [e1]; exact hR1) k3 T' rfl X'
    refine ⟨t2, st t2 ?_, b1⟩
    have e9 : ({ F0 m pc ls st0 with pc := (F0 m pc ls st0).pc + 3, stack := (v2.map (mi_v b B)).toList ++ r.map (mi_v b B) } : JFrame) = F0 m (pc + 3) ls ((v2.toList ++ r).map (mi_v b B)) := by rw [hst]
    rw [e9]
    exact a1
  · obtain ⟨k1, k2, k3⟩ := vx_keep h0 e1 hS (fun _ _ z => z) (fun _ z => z) hL hF
    obtain ⟨t2, a1, b1⟩ := kx E ce q T'.heap (locs ++ L') ho (by rw [e1]; exact hR1) k3 (by rw [e1]; exact hce) hcv hcl T' rfl X'
    exact ⟨t2, st.trans a1, b1⟩
/-- a contract that cannot throw is one of the elder kind -/
theorem mi_noX {y : MethodName} {ws : List Cond} {rm : Room} {Pc : Array Value → State → Prop} {v : Option Value} {mc ms : Nat} {free : Addr → Prop} (hM : vx_Met l y ws rm Pc (mi_QO D cl tA b B (.inl v) h') (mi_XO D cl tA b B (.inl v) h') mc ms free) : Met l y ws rm Pc (mi_QO D cl tA b B (.inl v) h') mc ms free := by
  intro p e ha hc hk s m args below hf happ hP hK
  obtain ⟨n, o, h1, h2, h3, h4⟩ := hM p e ha hc hk s m args below hf happ hP hK
  refine ⟨n, o, h1, h2, h3, ?_⟩
  rcases h4 with h4 | ⟨q, -, E, ce, L', ⟨hx, -⟩, -⟩
  · exact h4
  · cases hx
theorem mi_vaRun {mc ms : Nat} {g : JFrame} {rest : List Value} {Qa : State → Outcome → State → Prop} {XC : String → State → State → Prop} {free : Addr → Prop} (hr : va_Run p l e R s m args below meth c H locs cells slots mc ms g rest Qa free) : vx_Run p l e R s m args below meth c H locs cells slots mc ms g rest Qa XC free := by
  intro T hT X
  exact Or.inl (hr T hT X)
end MiCall
