/-! Calls and whole runs over bounds. -/
def sy_hd (A : mi_H) (as : List Value) : Bool := match as with
  | .ref a :: _ => sy_gd A a
  | _ => true
/-- instructions as lists -/
abbrev sy_T : Type := Nat → Nat → Option Instr
def sy_tok (P : mi_P) (T : sy_T) : Prop := ∀ j pc i, T j pc = some i → mi_is P j pc = some i ∧ mi_th P j pc = none
def sy_inv (P : mi_P) (call : mi_C) (j : Nat) (i : Instr) (pc : Nat) (lv : mi_L) (st : List Value) (h : mi_H) : Option mi_S := match mi_site P j i with
  | some (_, kind, _, _) => if kind = 6 then none else mi_inv P call j i pc lv st h
  | none => none
def sy_O (xs : Nat → Int32) (o : mi_O) : Prop := ∀ v, o = .inl (some v) → sy_v xs v v
def sy_S (xs : Nat → Int32) (q q' : mi_S) : Prop := match q, q' with
  | .inl a, .inl b => b.1 = a.1 ∧ sy_l xs a.2.1 b.2.1 ∧ sy_s xs a.2.2.1 b.2.2.1 ∧ sy_h a.2.2.2 b.2.2.2
  | .inr a, .inr b => b.1 = a.1 ∧ sy_h a.2 b.2 ∧ sy_O xs a.1
  | _, _ => False
def sy_C (xs : Nat → Int32) (ac c : mi_C) : Prop := ∀ k as A o G, ac k as A = some (o, G) → ∀ vs h, sy_s xs as vs → sy_h A h → sy_hd A as = true ∧ sy_O xs o ∧ ∃ g, c k vs h = some (o, g) ∧ sy_h G g
theorem sy_cargs {xs : Nat → Int32} {kind n : Nat} {a t as r : List Value} (h : mi_cargs kind n a = some (as, r)) (hs : sy_s xs a t) : ∃ vs w, mi_cargs kind n t = some (vs, w) ∧ sy_s xs as vs ∧ sy_s xs r w := by
  unfold mi_cargs at h ⊢
  have hd := sy_drop n hs
  have ht := sy_take n hs
  split at h
  · next hk =>
    rw [if_pos hk]
    split at h
    · next x r' he =>
      rw [he] at hd
      obtain ⟨v, w, hv, hv2, hw⟩ := hd
      cases hv2
      cases h
      rw [hv]
      exact ⟨_, _, rfl, ⟨_, _, rfl, rfl, sy_rev ht⟩, hw⟩
    · cases h
  · next hk =>
    rw [if_neg hk]
    split at h
    · next hl =>
      cases h
      rw [if_pos (by rw [sy_len hs]; exact hl)]
      exact ⟨_, _, rfl, sy_rev ht, hd⟩
    · cases h
theorem sy_rc {xs : Nat → Int32} {P : mi_P} {k : Nat} {A h : mi_H} {as vs : List Value} (hr : mi_rc P k A as = true) (hd : sy_hd A as = true) (hs : sy_s xs as vs) (H : sy_h A h) : mi_rc P k h vs = true := by
  unfold mi_rc at hr
  split at hr
  · next a r =>
    obtain ⟨v, w, rfl, hv, hw⟩ := hs
    cases hv
    have hd : sy_gd A a = true := hd
    unfold mi_rc
    simp only [sy_gd_ok H hd]
    exact hr
  · cases hr
theorem sy_exc {xs : Nat → Int32} {P : mi_P} {j pc : Nat} {al l : mi_L} {E : String} {G g : mi_H} {q : mi_S} (h : mi_exc P j pc al E G = some q) (hl : sy_l xs al l) (H : sy_h G g) : ∃ q', mi_exc P j pc l E g = some q' ∧ sy_S xs q q' := by
  unfold mi_exc at h ⊢
  split at h
  · next hc =>
    split at h
    · next he => cases h; exact ⟨.inr (.inr E, g), if_pos he, rfl, H, fun v hv => by cases hv⟩
    · cases h
  · next hp hc =>
    split at h
    · next n hi =>
      split at h
      · next hn => cases h; exact ⟨.inl (_, mi_sub l _, [], g), if_pos hn, rfl, sy_sub hl, rfl, H⟩
      · cases h
    · next n hi =>
      split at h
      · next hn => cases h; exact ⟨.inl (_, mi_sub l _, [], g), if_pos hn, rfl, sy_sub hl, rfl, H⟩
      · cases h
    · cases h
theorem sy_inv_ok {xs : Nat → Int32} {P : mi_P} {ac c : mi_C} (hC : sy_C xs ac c) {j pc : Nat} {i : Instr} {al l : mi_L} {a t : List Value} {A h : mi_H} {q : mi_S} (hh : sy_inv P ac j i pc al a A = some q) (hl : sy_l xs al l) (hs : sy_s xs a t) (H : sy_h A h) : ∃ q', mi_inv P c j i pc l t h = some q' ∧ sy_S xs q q' := by
  unfold sy_inv at hh
  split at hh
  · next k0 kind n ix hsite =>
    split at hh
    · cases hh
    · next h6 =>
      unfold mi_inv at hh ⊢
      rw [hsite] at hh ⊢
      simp only [if_neg h6] at hh ⊢
      split at hh
      · next h3 =>
        rw [if_pos h3]
        split at hh
        · obtain ⟨v, w, rfl, hv, hw⟩ := hs
          cases hv
          split at hh
          · next hwt => cases hh; exact ⟨.inl (_, l, w, h), if_pos (by rw [sy_wt hw]; exact hwt), rfl, hl, hw, H⟩
          · cases hh
        · cases hh
      · next h3 =>
        rw [if_neg h3]
        split at hh
        · cases hh
        · next as r hca =>
          obtain ⟨vs, w, hcv, hsv, hsw⟩ := sy_cargs hca hs
          rw [hcv]
          simp only []
          split at hh
          · next hcond =>
            split at hh
            · cases hh
            · next v G hcall =>
              cases hh
              obtain ⟨hd, hO, g, hg, hG⟩ := hC _ _ _ _ _ hcall vs h hsv H
              refine ⟨.inl (_, l, v.toList ++ w, g), ?_, rfl, hl, ?_, hG⟩
              · rw [if_pos ⟨by rw [sy_wt hsw]; exact hcond.1, fun hk => sy_rc (hcond.2 hk) hd hsv H⟩, hg]
              · cases v with
                | none => exact hsw
                | some v => exact ⟨v, w, rfl, hO v rfl, hsw⟩
            · next E G hcall =>
              obtain ⟨hd, hO, g, hg, hG⟩ := hC _ _ _ _ _ hcall vs h hsv H
              split at hh
              · cases hh
              · next hk =>
                obtain ⟨q', h1, h2⟩ := sy_exc hh hl hG
                refine ⟨q', ?_, h2⟩
                rw [if_pos ⟨by rw [sy_wt hsw]; exact hcond.1, fun hk => sy_rc (hcond.2 hk) hd hsv H⟩, hg]
                simp only [if_neg hk]
                exact h1
          · cases hh
  · cases hh
def sy_step (P : mi_P) (T : sy_T) (V : sy_V) (call : mi_C) (j pc : Nat) (lv : mi_L) (st : List Value) (h : mi_H) : Option mi_S := match T j pc with
  | some i => (match sy_kd i with
    | 0 => (sy_pure V i st).map (fun r => .inl (pc + mi_len i, lv, r, h))
    | 1 => (sy_loc (mi_mx P j) i lv st).map (fun r => .inl (pc + mi_len i, r.1, r.2, h))
    | 2 => (sy_jmp V i pc st).map (fun r => .inl (r.1, lv, r.2, h))
    | 3 => (sy_heap P V j i st h).map (fun r => .inl (pc + mi_len i, lv, r.1, r.2))
    | 4 => (mi_ret (mi_rt P j) i st).map (fun r => .inr (.inl r, h))
    | 5 => sy_inv P call j i pc lv st h
    | _ => none)
  | none => (match mi_th P j pc with
    | some E => if st.isEmpty = true then some (.inr (.inr E, mi_push h 6 mi_dead)) else none
    | none => none)
theorem sy_ret {xs : Nat → Int32} {rt : Option FieldType} {i : Instr} {a t : List Value} {v : Option Value} (h : mi_ret rt i a = some v) (hs : sy_s xs a t) : mi_ret rt i t = some v ∧ sy_O xs (.inl v) := by
  have key : t = a ∧ sy_O xs (.inl v) := by
    unfold mi_ret at h
    split at h
    · obtain ⟨u, w, rfl, hu, hw⟩ := hs
      cases hu; cases hw
      refine ⟨rfl, fun z hz => ?_⟩
      cases hz
      split at h
      · cases h; rfl
      · split at h
        · cases h; rfl
        · cases h
      · cases h
    · obtain ⟨u, w, rfl, hu, hw⟩ := hs
      cases hu; cases hw
      refine ⟨rfl, fun z hz => ?_⟩
      cases hz
      split at h
      · cases h; rfl
      · cases h
    · obtain ⟨u, w, rfl, hu, hw⟩ := hs
      cases hu; cases hw
      refine ⟨rfl, fun z hz => ?_⟩
      cases hz
      split at h
      · cases h; rfl
      · cases h
    · obtain ⟨u, w, rfl, hu, hw⟩ := hs
      cases hu; cases hw
      refine ⟨rfl, fun z hz => ?_⟩
      cases hz
      split at h
      · cases h; rfl
      · cases h
    · cases hs
      refine ⟨rfl, fun z hz => ?_⟩
      cases hz
      split at h
      · cases h
      · cases h
    · cases h
  exact ⟨by rw [key.1]; exact h, key.2⟩
theorem sy_step_ok {V : sy_V} {L : Nat} {xs : Nat → Int32} (hV : sy_ok V L xs) {P : mi_P} {T : sy_T} (hT : sy_tok P T) {ac c : mi_C} (hC : sy_C xs ac c) {j pc : Nat} {al l : mi_L} {a t : List Value} {A h : mi_H} {q : mi_S} (hh : sy_step P T V ac j pc al a A = some q) (hl : sy_l xs al l) (hs : sy_s xs a t) (H : sy_h A h) : ∃ q', mi_step P L xs c j pc l t h = some q' ∧ sy_S xs q q' := by
  unfold sy_step at hh
  split at hh
  · next i hTi =>
    obtain ⟨hi, hE⟩ := hT _ _ _ hTi
    split at hh
    · obtain ⟨r, hr, e1⟩ := Option.map_eq_some_iff.mp hh
      cases e1
      obtain ⟨w, h1, h2⟩ := sy_pure_ok hV hr hs
      exact ⟨_, sy_step0 hE hi h1, rfl, hl, h2, H⟩
    · obtain ⟨r, hr, e1⟩ := Option.map_eq_some_iff.mp hh
      cases e1
      obtain ⟨w, h1, h2, h3⟩ := sy_loc_ok hr hl hs
      exact ⟨_, sy_step1 hE hi h1, rfl, h2, h3, H⟩
    · obtain ⟨r, hr, e1⟩ := Option.map_eq_some_iff.mp hh
      cases e1
      obtain ⟨w, h1, h2, h3⟩ := sy_jmp_ok hV hr hs
      exact ⟨_, sy_step2 hE hi h1, h2, hl, h3, H⟩
    · obtain ⟨r, hr, e1⟩ := Option.map_eq_some_iff.mp hh
      cases e1
      obtain ⟨w, h1, h2, h3⟩ := sy_heap_ok hV hr hs H
      exact ⟨_, sy_step3 hE hi h1, rfl, hl, h2, h3⟩
    · obtain ⟨r, hr, e1⟩ := Option.map_eq_some_iff.mp hh
      cases e1
      obtain ⟨h1, h2⟩ := sy_ret hr hs
      exact ⟨_, sy_step4 hE hi h1, rfl, H, h2⟩
    · next hk =>
      obtain ⟨q', h1, h2⟩ := sy_inv_ok hC hh hl hs H
      exact ⟨q', sy_step5 hE hi hk h1, h2⟩
    · cases hh
  · split at hh
    · next E hE =>
      split at hh
      · next he =>
        cases hh
        cases a with
        | nil =>
          cases hs
          refine ⟨.inr (.inr E, mi_push h 6 mi_dead), ?_, rfl, sy_push H sy_dead, fun v hv => by cases hv⟩
          unfold mi_step
          simp only [hE]
          rfl
        | cons a r => cases he
      · cases hh
    · cases hh
def sy_run (P : mi_P) (T : sy_T) (V : sy_V) (call : mi_C) (j : Nat) : Nat → Nat → mi_L → List Value → mi_H → Option (mi_O × mi_H)
  | 0, _, _, _, _ => none
  | n + 1, pc, lv, st, h => match sy_step P T V call j pc lv st h with
    | none => none
    | some (.inr o) => some o
    | some (.inl q) => sy_run P T V call j n q.1 q.2.1 q.2.2.1 q.2.2.2
def sy_call (P : mi_P) (T : sy_T) (V : sy_V) (fuel : Nat) : Nat → mi_C
  | 0, _, _, _ => none
  | d + 1, j, as, h => if mi_wt as ≤ mi_mx P j ∧ sy_hd h as = true then sy_run P T V (sy_call P T V fuel d) j fuel 0 (lv_args 0 as) [] h else none
theorem sy_run_ok {V : sy_V} {L : Nat} {xs : Nat → Int32} (hV : sy_ok V L xs) {P : mi_P} {T : sy_T} (hT : sy_tok P T) {ac c : mi_C} (hC : sy_C xs ac c) {j : Nat} : ∀ (n pc : Nat) (al l : mi_L) (a t : List Value) (A h : mi_H) (o : mi_O) (G : mi_H), sy_run P T V ac j n pc al a A = some (o, G) → sy_l xs al l → sy_s xs a t → sy_h A h → sy_O xs o ∧ ∃ g, mi_run P L xs c j n pc l t h = some (o, g) ∧ sy_h G g := by
  intro n
  induction n with
  | zero => intro pc al l a t A h o G hr; cases hr
  | succ n ih =>
    intro pc al l a t A h o G hr hl hs H
    unfold sy_run at hr
    split at hr
    · cases hr
    · next o' hq =>
      cases hr
      obtain ⟨q', h1, h2⟩ := sy_step_ok hV hT hC hq hl hs H
      cases q' with
      | inl b => exact absurd h2 (fun hf => hf)
      | inr b =>
        obtain ⟨e1, e2, e3⟩ := h2
        refine ⟨e3, b.2, ?_, e2⟩
        unfold mi_run
        rw [h1]
        have e1 : b.1 = o := e1
        rw [← e1]
    · next q hq =>
      obtain ⟨q', h1, h2⟩ := sy_step_ok hV hT hC hq hl hs H
      cases q' with
      | inr b => exact absurd h2 (fun hf => hf)
      | inl b =>
        obtain ⟨e1, e2, e3, e4⟩ := h2
        obtain ⟨h3, g, h4, h5⟩ := ih _ _ _ _ _ _ _ _ _ hr e2 e3 e4
        refine ⟨h3, g, ?_, h5⟩
        unfold mi_run
        rw [h1]
        simp only []
        rw [e1]
        exact h4
theorem sy_call_ok {V : sy_V} {L : Nat} {xs : Nat → Int32} (hV : sy_ok V L xs) {P : mi_P} {T : sy_T} (hT : sy_tok P T) {fuel : Nat} : ∀ d, sy_C xs (sy_call P T V fuel d) (mi_call P L xs fuel d) := by
  intro d
  induction d with
  | zero => intro k as A o G h; cases h
  | succ d ih =>
    intro k as A o G h vs g hs H
    unfold sy_call at h
    split at h
    · next hc =>
      obtain ⟨h1, g', h2, h3⟩ := sy_run_ok hV hT ih _ _ _ _ _ _ _ _ _ _ h (sy_args 0 hs) rfl H
      refine ⟨hc.2, h1, g', ?_, h3⟩
      unfold mi_call
      rw [if_pos (by rw [sy_wt hs]; exact hc.1)]
      exact h2
    · cases h
theorem mi_run_more {P : mi_P} {L : Nat} {xs : Nat → Int32} {c : mi_C} {j : Nat} : ∀ (n pc : Nat) (lv : mi_L) (st : List Value) (h : mi_H) (r : mi_O × mi_H), mi_run P L xs c j n pc lv st h = some r → mi_run P L xs c j (n + 1) pc lv st h = some r := by
  intro n
  induction n with
  | zero => intro pc lv st h r hr; cases hr
  | succ n ih =>
    intro pc lv st h r hr
    rw [mi_run] at hr
    rw [mi_run]
    split at hr
    · cases hr
    · next o ho => exact hr
    · next q hq => exact ih _ _ _ _ _ hr
/-- bounds cut in pieces -/
def sy_fork (f : Int → Int → Bool) : List Int → Int → Int → Bool
  | [], lo, hi => f lo hi
  | c :: r, lo, hi => f lo (c - 1) && sy_fork f r c hi
theorem sy_fork_ok {f : Int → Int → Bool} {x : Int} : ∀ (cs : List Int) (lo hi : Int), sy_fork f cs lo hi = true → lo ≤ x → x ≤ hi → ∃ a b, f a b = true ∧ a ≤ x ∧ x ≤ b := by
  intro cs
  induction cs with
  | nil => intro lo hi h h1 h2; exact ⟨lo, hi, h, h1, h2⟩
  | cons c r ih =>
    intro lo hi h h1 h2
    have h : (f lo (c - 1) && sy_fork f r c hi) = true := h
    rw [Bool.and_eq_true] at h
    by_cases hx : x ≤ c - 1
    · exact ⟨lo, c - 1, h.1, h1, hx⟩
    · exact ih c hi h.2 (by omega) h2
def sy_put (E : Nat → Int × Int × Bool) (k : Nat) (q : Int × Int × Bool) : Nat → Int × Int × Bool := fun j => if j = k then q else E j
/-- what is to be told at a place of the law before it goes on: the script's length, an int of it -/
def sy_ask (T : sy_T) (V : sy_V) (pc : Nat) (st : List Value) : Option (Option Nat) := match T 0 pc with
  | some .arraylength => (match st with
    | .ref a :: _ => if a = 0 ∧ ¬ V.2.1 < 7 then some none else none
    | _ => none)
  | some .iaload => (match st with
    | .int x :: .ref a :: _ => if a = 0 ∧ x.toNatClampNeg < 6 ∧ (V.2.2 x.toNatClampNeg).2.2 = false then some (some x.toNatClampNeg) else none
    | _ => none)
  | _ => none
def sy_law (P : mi_P) (T : sy_T) (call : sy_V → mi_C) (pol : Nat → Nat → List Int) (mc ms : Nat) : Nat → sy_V → Nat → mi_L → List Value → mi_H → Bool
  | 0, _, _, _, _, _ => false
  | n + 1, V, pc, lv, st, h => match sy_ask T V pc st with
    | some none => (List.range 7).all (fun l => sy_law P T call pol mc ms n (V.1, l, V.2.2) pc lv st h)
    | some (some k) => if k = 0 then (List.range 16).all (fun m => sy_law P T call pol mc ms n (m, V.2.1, sy_put V.2.2 0 (-2147483648, 2147483647, true)) pc lv st h)
      else sy_fork (fun lo hi => sy_law P T call pol mc ms n (V.1, V.2.1, sy_put V.2.2 k (lo, hi, true)) pc lv st h) (pol V.1 k) (-2147483648) 2147483647
    | none => match sy_step P T V (call V) 0 pc lv st h with
      | none => false
      | some (.inr o) => (match o.1 with
        | .inl (some (.int x)) => decide (x = 1) && (decide (o.2.1 ≤ mc) && decide (o.2.2.1 ≤ ms))
        | _ => false)
      | some (.inl q) => sy_law P T call pol mc ms n V q.1 q.2.1 q.2.2.1 q.2.2.2
theorem sy_and15 (x : Int32) : ∃ m, m < 16 ∧ x &&& 15 = Int32.ofNat m := by
  refine ⟨(x &&& 15).toBitVec.toNat, ?_, ?_⟩
  · have : (x &&& 15).toBitVec = x.toBitVec &&& 15#32 := rfl
    rw [this, BitVec.toNat_and]
    exact Nat.lt_of_le_of_lt Nat.and_le_right (by decide)
  · apply Int32.toBitVec.inj
    show _ = BitVec.ofNat 32 _
    rw [BitVec.ofNat_toNat]
    exact (BitVec.setWidth_eq _).symm
theorem sy_law_ok {P : mi_P} {T : sy_T} (hT : sy_tok P T) {L : Nat} {xs : Nat → Int32} (hL : L ≤ 6) {ac : sy_V → mi_C} {c : mi_C} (hC : ∀ V, sy_ok V L xs → sy_C xs (ac V) c) {pol : Nat → Nat → List Int} {mc ms : Nat} : ∀ (n : Nat) (V : sy_V) (pc : Nat) (al l : mi_L) (a t : List Value) (A h : mi_H), sy_law P T ac pol mc ms n V pc al a A = true → sy_ok V L xs → sy_l xs al l → sy_s xs a t → sy_h A h → ∃ g, mi_run P L xs c 0 n pc l t h = some (.inl (some (.int 1)), g) ∧ g.1 ≤ mc ∧ g.2.1 ≤ ms := by
  intro n
  induction n with
  | zero => intro V pc al l a t A h hr; cases hr
  | succ n ih =>
    intro V pc al l a t A h hr hV hl hs H
    unfold sy_law at hr
    split at hr
    · have h1 := List.all_eq_true.mp hr L (List.mem_range.mpr (by omega))
      obtain ⟨g, h2, h3⟩ := ih _ _ _ _ _ _ _ _ h1 ⟨hV.1, fun _ => rfl, hV.2.2⟩ hl hs H
      exact ⟨g, mi_run_more _ _ _ _ _ _ h2, h3⟩
    · next k hk =>
      split at hr
      · next hk0 =>
        obtain ⟨m, hm, he⟩ := sy_and15 (xs 0)
        have h1 := List.all_eq_true.mp hr m (List.mem_range.mpr hm)
        have hV1 : sy_ok (m, V.2.1, sy_put V.2.2 0 (-2147483648, 2147483647, true)) L xs := by
          refine ⟨fun _ => he, hV.2.1, fun k hk => ?_⟩
          show (sy_put V.2.2 0 (-2147483648, 2147483647, true) k).1 ≤ _ ∧ _ ≤ (sy_put V.2.2 0 (-2147483648, 2147483647, true) k).2.1
          unfold sy_put
          split
          · exact ⟨Int32.le_toInt _, by have := Int32.toInt_lt (xs k); show _ ≤ (2147483647 : Int); omega⟩
          · exact hV.2.2 k hk
        obtain ⟨g, h2, h3⟩ := ih _ _ _ _ _ _ _ _ h1 hV1 hl hs H
        exact ⟨g, mi_run_more _ _ _ _ _ _ h2, h3⟩
      · next hk0 =>
        obtain ⟨lo, hi, h1, h2, h3⟩ := sy_fork_ok (x := (xs k).toInt) _ _ _ hr (Int32.le_toInt _) (by have := Int32.toInt_lt (xs k); omega)
        have hV1 : sy_ok (V.1, V.2.1, sy_put V.2.2 k (lo, hi, true)) L xs := by
          refine ⟨hV.1, hV.2.1, fun q hq => ?_⟩
          show (sy_put V.2.2 k (lo, hi, true) q).1 ≤ _ ∧ _ ≤ (sy_put V.2.2 k (lo, hi, true) q).2.1
          unfold sy_put
          split
          · next e1 => subst e1; exact ⟨h2, h3⟩
          · exact hV.2.2 q hq
        obtain ⟨g, h4, h5⟩ := ih _ _ _ _ _ _ _ _ h1 hV1 hl hs H
        exact ⟨g, mi_run_more _ _ _ _ _ _ h4, h5⟩
    · split at hr
      · cases hr
      · next o ho =>
        split at hr
        · next x hx =>
          obtain ⟨q', h1, h2⟩ := sy_step_ok hV hT (hC V hV) ho hl hs H
          cases q' with
          | inl b => exact absurd h2 (fun hf => hf)
          | inr b =>
            obtain ⟨e1, e2, e3⟩ := h2
            simp only [Bool.and_eq_true, decide_eq_true_eq] at hr
            obtain ⟨rfl, h4, h5⟩ := hr
            refine ⟨b.2, ?_, by rw [e2.1]; exact h4, by rw [e2.2.1]; exact h5⟩
            unfold mi_run
            rw [h1]
            simp only []
            rw [← hx, ← e1]
        · cases hr
      · next q hq =>
        obtain ⟨q', h1, h2⟩ := sy_step_ok hV hT (hC V hV) hq hl hs H
        cases q' with
        | inr b => exact absurd h2 (fun hf => hf)
        | inl b =>
          obtain ⟨e1, e2, e3, e4⟩ := h2
          obtain ⟨g, h4, h5⟩ := ih _ _ _ _ _ _ _ _ hr hV e2 e3 e4
          refine ⟨g, ?_, h5⟩
          unfold mi_run
          rw [h1]
          simp only []
          rw [e1]
          exact h4
/-- the law's run up to a place -/
def sy_to (P : mi_P) (T : sy_T) (V : sy_V) (call : mi_C) (j stop : Nat) : Nat → Nat → mi_L → List Value → mi_H → Option (mi_L × List Value × mi_H)
  | 0, _, _, _, _ => none
  | n + 1, pc, lv, st, h => if pc = stop then some (lv, st, h) else match sy_step P T V call j pc lv st h with
    | some (.inl q) => sy_to P T V call j stop n q.1 q.2.1 q.2.2.1 q.2.2.2
    | _ => none
theorem sy_to_ok {V : sy_V} {L : Nat} {xs : Nat → Int32} (hV : sy_ok V L xs) {P : mi_P} {T : sy_T} (hT : sy_tok P T) {ac c : mi_C} (hC : sy_C xs ac c) {j stop : Nat} : ∀ (n pc : Nat) (al l : mi_L) (a t : List Value) (A h : mi_H) (q : mi_L × List Value × mi_H), sy_to P T V ac j stop n pc al a A = some q → sy_l xs al l → sy_s xs a t → sy_h A h → ∃ (l' : mi_L) (t' : List Value) (h' : mi_H), sy_l xs q.1 l' ∧ sy_s xs q.2.1 t' ∧ sy_h q.2.2 h' ∧ ∀ (k : Nat) (r : mi_O × mi_H), mi_run P L xs c j k stop l' t' h' = some r → mi_run P L xs c j (n + k) pc l t h = some r := by
  intro n
  induction n with
  | zero => intro pc al l a t A h q hr; cases hr
  | succ n ih =>
    intro pc al l a t A h q hr hl hs H
    unfold sy_to at hr
    split at hr
    · next hp =>
      cases hr
      subst hp
      refine ⟨l, t, h, hl, hs, H, fun k r hk => ?_⟩
      have key : ∀ m, mi_run P L xs c j (m + k) pc l t h = some r := by
        intro m
        induction m with
        | zero => rw [Nat.zero_add]; exact hk
        | succ m ihm => rw [Nat.succ_add]; exact mi_run_more _ _ _ _ _ _ ihm
      exact key _
    · split at hr
      · next q1 hq =>
        obtain ⟨q', h1, h2⟩ := sy_step_ok hV hT hC hq hl hs H
        cases q' with
        | inr b => exact absurd h2 (fun hf => hf)
        | inl b =>
          obtain ⟨e1, e2, e3, e4⟩ := h2
          obtain ⟨l', t', h', g1, g2, g3, g4⟩ := ih _ _ _ _ _ _ _ _ hr e2 e3 e4
          refine ⟨l', t', h', g1, g2, g3, fun k r hk => ?_⟩
          have g5 := g4 k r hk
          rw [Nat.succ_add]
          unfold mi_run
          rw [h1]
          simp only []
          rw [e1]
          exact g5
      · cases hr
