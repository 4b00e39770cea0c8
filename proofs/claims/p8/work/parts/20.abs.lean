/-! The steps of such runs. -/
/-- what is known: the script's first int's low four bits (below 16), its length (below 7), bounds of its ints -/
abbrev sy_V : Type := Nat × Nat × (Nat → Int × Int × Bool)
def sy_ok (V : sy_V) (L : Nat) (xs : Nat → Int32) : Prop := (V.1 < 16 → xs 0 &&& 15 = Int32.ofNat V.1) ∧ (V.2.1 < 7 → L = V.2.1) ∧ ∀ k, k < 6 → (V.2.2 k).1 ≤ (xs k).toInt ∧ (xs k).toInt ≤ (V.2.2 k).2.1
def sy_dec (k : ClassFile.Cond) (lo hi y : Int) : Option Bool := match k with
  | .eq => if lo = y ∧ hi = y then some true else if hi < y ∨ y < lo then some false else none
  | .ne => if lo = y ∧ hi = y then some false else if hi < y ∨ y < lo then some true else none
  | .lt => if hi < y then some true else if y ≤ lo then some false else none
  | .ge => if y ≤ lo then some true else if hi < y then some false else none
  | .gt => if y < lo then some true else if hi ≤ y then some false else none
  | .le => if hi ≤ y then some true else if y < lo then some false else none
theorem sy_dec_ok {k : ClassFile.Cond} {lo hi : Int} {x y : Int32} {b : Bool} (h : sy_dec k lo hi y.toInt = some b) (h1 : lo ≤ x.toInt) (h2 : x.toInt ≤ hi) : mi_cmp k x y = b := by
  have key : ∀ (p : Prop) [Decidable p], (p ↔ (b = true)) → decide p = b := by
    intro p _ hp
    cases b with
    | true => exact decide_eq_true (hp.mpr rfl)
    | false => exact decide_eq_false (fun q => by cases hp.mp q)
  cases k with
  | eq =>
    simp only [sy_dec] at h
    refine key _ ?_
    rw [← Int32.toInt_inj]
    split at h
    · cases h; simp only [iff_true]; omega
    · split at h
      · cases h; simp only [Bool.false_eq_true, iff_false]; omega
      · cases h
  | ne =>
    simp only [sy_dec] at h
    show (!decide (x = y)) = b
    rw [← Bool.not_not b]
    congr 1
    cases b with
    | true =>
      refine decide_eq_false ?_
      rw [← Int32.toInt_inj]
      split at h
      · cases h
      · split at h
        · omega
        · cases h
    | false =>
      refine decide_eq_true ?_
      rw [← Int32.toInt_inj]
      split at h
      · omega
      · split at h
        · cases h
        · cases h
  | lt =>
    simp only [sy_dec] at h
    refine key _ ?_
    rw [Int32.lt_iff_toInt_lt]
    split at h
    · cases h; simp only [iff_true]; omega
    · split at h
      · cases h; simp only [Bool.false_eq_true, iff_false]; omega
      · cases h
  | ge =>
    simp only [sy_dec] at h
    refine key _ ?_
    rw [Int32.le_iff_toInt_le]
    split at h
    · cases h; simp only [iff_true]; omega
    · split at h
      · cases h; simp only [Bool.false_eq_true, iff_false]; omega
      · cases h
  | gt =>
    simp only [sy_dec] at h
    refine key _ ?_
    rw [Int32.lt_iff_toInt_lt]
    split at h
    · cases h; simp only [iff_true]; omega
    · split at h
      · cases h; simp only [Bool.false_eq_true, iff_false]; omega
      · cases h
  | le =>
    simp only [sy_dec] at h
    refine key _ ?_
    rw [Int32.le_iff_toInt_le]
    split at h
    · cases h; simp only [iff_true]; omega
    · split at h
      · cases h; simp only [Bool.false_eq_true, iff_false]; omega
      · cases h
def sy_side (lo hi y : Int) : Option Int32 := if hi < y then some (-1) else if y < lo then some 1 else if lo = y ∧ hi = y then some 0 else none
theorem sy_side_ok {lo hi : Int} {x : Int32} {y : Int64} {c : Int32} (h : sy_side lo hi y.toInt = some c) (h1 : lo ≤ x.toInt) (h2 : x.toInt ≤ hi) : lg_cmp x.toInt64 y = c := by
  have hx : x.toInt64.toInt = x.toInt := Int32.toInt_toInt64 x
  unfold sy_side at h
  unfold lg_cmp
  simp only [gt_iff_lt, Int64.lt_iff_toInt_lt, ← Int64.toInt_inj, hx]
  split at h
  · cases h
    rw [if_neg (by omega), if_neg (by omega)]
  · split at h
    · cases h
      rw [if_pos (by omega)]
    · split at h
      · cases h
        rw [if_neg (by omega), if_pos (by omega)]
      · cases h
def sy_pure (V : sy_V) (i : Instr) (st : List Value) : Option (List Value) := match mi_pure i st with
  | some r => some r
  | none => match i, st with
    | .iand, .int y :: .float k :: r => if k = 0 ∧ y = 15 ∧ V.1 < 16 then some (.int (Int32.ofNat V.1) :: r) else some (.float 9 :: r)
    | .iushr, .int _ :: .float _ :: r => some (.float 9 :: r)
    | .ishr, .int _ :: .float _ :: r => some (.float 9 :: r)
    | .i2l, .float k :: r => some (.double k.toUInt64 :: r)
    | .lcmp, .long y :: .double k :: r => if k.toNat < 6 then (match sy_side (V.2.2 k.toNat).1 (V.2.2 k.toNat).2.1 y.toInt with
      | some c => some (.int c :: r)
      | none => none) else none
    | _, _ => none
theorem sy_top {xs : Nat → Int32} {x : Int32} : sy_v xs (.float 9) (.int x) := ⟨x, rfl, fun h => absurd h (by decide)⟩
set_option maxHeartbeats 4000000 in
theorem sy_pure_a {xs : Nat → Int32} {i : Instr} {a r t : List Value} (h : mi_pure i a = some r) (hs : sy_s xs a t) : ∃ w, mi_pure i t = some w ∧ sy_s xs r w := by
  unfold mi_pure at h
  split at h
  case h_27 =>
    obtain ⟨v, w, rfl, hv, hw⟩ := hs
    split at h
    · next hc =>
      cases h
      refine ⟨v :: v :: w, ?_, v, _, rfl, hv, v, _, rfl, hv, hw⟩
      show (if v.category = 1 then some (v :: v :: w) else none) = _
      rw [if_pos (by rw [sy_cat hv]; exact hc)]
    · cases h
  case h_28 =>
    obtain ⟨v, w, rfl, hv, hw⟩ := hs
    split at h
    · next hc =>
      cases h
      refine ⟨w, ?_, hw⟩
      show (if v.category = 1 then some w else none) = _
      rw [if_pos (by rw [sy_cat hv]; exact hc)]
    · cases h
  case h_29 =>
    obtain ⟨v, w, rfl, hv, u, z, rfl, hu, hz⟩ := hs
    split at h
    · next hc =>
      split at h
      · next hc2 =>
        cases h
        refine ⟨v :: u :: v :: u :: z, ?_, v, _, rfl, hv, u, _, rfl, hu, v, _, rfl, hv, u, _, rfl, hu, hz⟩
        show (if v.category = 1 then (if u.category = 1 then some (v :: u :: v :: u :: z) else none) else none) = _
        rw [if_pos (by rw [sy_cat hv]; exact hc), if_pos (by rw [sy_cat hu]; exact hc2)]
      · cases h
    · cases h
  case h_13 =>
    obtain ⟨v, w, rfl, hv, u, z, rfl, hu, hz⟩ := hs
    cases hv; cases hu
    split at h
    · cases h
    · next hc => cases h; exact ⟨_, if_neg hc, _, _, rfl, rfl, hz⟩
  case h_14 =>
    obtain ⟨v, w, rfl, hv, u, z, rfl, hu, hz⟩ := hs
    cases hv; cases hu
    split at h
    · cases h
    · next hc => cases h; exact ⟨_, if_neg hc, _, _, rfl, rfl, hz⟩
  all_goals first
    | (cases h; done)
    | (cases h; exact ⟨_, rfl, _, _, rfl, rfl, hs⟩)
    | (cases h; obtain ⟨v, w, rfl, hv, u, z, rfl, hu, hz⟩ := hs; cases hv; cases hu; exact ⟨_, rfl, _, _, rfl, rfl, hz⟩)
    | (cases h; obtain ⟨v, w, rfl, hv, hw⟩ := hs; cases hv; exact ⟨_, rfl, _, _, rfl, rfl, hw⟩)
theorem sy_pure_ok {V : sy_V} {L : Nat} {xs : Nat → Int32} (hV : sy_ok V L xs) {i : Instr} {a r t : List Value} (h : sy_pure V i a = some r) (hs : sy_s xs a t) : ∃ w, mi_pure i t = some w ∧ sy_s xs r w := by
  unfold sy_pure at h
  split at h
  · next r' hr => cases h; exact sy_pure_a hr hs
  · split at h
    · obtain ⟨v, w, rfl, hv, u, z, rfl, hu, hz⟩ := hs
      cases hv
      obtain ⟨x, rfl, hx⟩ := hu
      split at h
      · next hc =>
        cases h
        obtain ⟨rfl, rfl, h16⟩ := hc
        refine ⟨.int (x &&& 15) :: z, rfl, _, _, rfl, ?_, hz⟩
        have e1 := hx (by decide)
        have e2 := hV.1 h16
        show Value.int (x &&& 15) = Value.int (Int32.ofNat V.1)
        rw [e1, ← e2]
        rfl
      · cases h
        exact ⟨_, rfl, _, _, rfl, sy_top, hz⟩
    · obtain ⟨v, w, rfl, hv, u, z, rfl, hu, hz⟩ := hs
      cases hv
      obtain ⟨x, rfl, hx⟩ := hu
      cases h
      exact ⟨_, rfl, _, _, rfl, sy_top, hz⟩
    · obtain ⟨v, w, rfl, hv, u, z, rfl, hu, hz⟩ := hs
      cases hv
      obtain ⟨x, rfl, hx⟩ := hu
      cases h
      exact ⟨_, rfl, _, _, rfl, sy_top, hz⟩
    · obtain ⟨v, w, rfl, hv, hw⟩ := hs
      obtain ⟨x, rfl, hx⟩ := hv
      cases h
      exact ⟨_, rfl, _, _, rfl, ⟨x, rfl, fun h => by rw [UInt32.toNat_toUInt64] at h ⊢; exact hx h⟩, hw⟩
    · obtain ⟨v, w, rfl, hv, u, z, rfl, hu, hz⟩ := hs
      cases hv
      obtain ⟨x, rfl, hx⟩ := hu
      split at h
      · next hk =>
        split at h
        · next c hc =>
          cases h
          refine ⟨_, rfl, _, _, rfl, ?_, hz⟩
          have hb := hV.2.2 _ hk
          rw [← hx hk] at hb
          exact congrArg Value.int (sy_side_ok hc hb.1 hb.2)
        · cases h
      · cases h
    · cases h
def sy_loc (nL : Nat) (i : Instr) (lv : mi_L) (st : List Value) : Option (mi_L × List Value) := match mi_loc nL i lv st with
  | some q => some q
  | none => match i with
    | .iload_n k => match mi_lget lv (k : Nat) with
      | some (.float v) => some (lv, .float v :: st)
      | _ => none
    | .iload k => match mi_lget lv k with
      | some (.float v) => some (lv, .float v :: st)
      | _ => none
    | .lload_n k => match mi_lget lv (k : Nat) with
      | some (.double v) => some (lv, .double v :: st)
      | _ => none
    | .istore_n k => match st with
      | .float v :: r => if (k : Nat) < nL then some (mi_st1 lv (k : Nat) (.float v), r) else none
      | _ => none
    | .istore k => match st with
      | .float v :: r => if k < nL then some (mi_st1 lv k (.float v), r) else none
      | _ => none
    | _ => none
theorem sy_ld_a {xs : Nat → Int32} {k n : Nat} {al l : mi_L} {a t r : List Value} (h : mi_ld k al n a = some r) (hl : sy_l xs al l) (hs : sy_s xs a t) : ∃ w, mi_ld k l n t = some w ∧ sy_s xs r w := by
  unfold mi_ld at h
  split at h
  case h_6 => cases h
  all_goals
    next hg =>
    obtain ⟨v, hv, hr⟩ := sy_lget hl hg
    cases hr
    split at h
    · next hk =>
      cases h
      subst hk
      refine ⟨_, ?_, _, _, rfl, rfl, hs⟩
      unfold mi_ld
      rw [hv]
      rfl
    · cases h
theorem sy_sto_a {xs : Nat → Int32} {nL k n : Nat} {al l : mi_L} {a t : List Value} {r : mi_L × List Value} (h : mi_sto nL k al n a = some r) (hl : sy_l xs al l) (hs : sy_s xs a t) : ∃ w, mi_sto nL k l n t = some w ∧ sy_l xs r.1 w.1 ∧ sy_s xs r.2 w.2 := by
  unfold mi_sto at h
  split at h
  case h_6 => cases h
  case h_2 =>
    obtain ⟨v, w, rfl, hv, hw⟩ := hs
    cases hv
    split at h
    · next hc => cases h; exact ⟨_, if_pos hc, sy_st2 rfl hl, hw⟩
    · cases h
  all_goals
    obtain ⟨v, w, rfl, hv, hw⟩ := hs
    cases hv
    split at h
    · next hc => cases h; exact ⟨_, if_pos hc, sy_st1 rfl hl, hw⟩
    · cases h
theorem sy_loc_a {xs : Nat → Int32} {nL : Nat} {i : Instr} {al l : mi_L} {a t : List Value} {r : mi_L × List Value} (h : mi_loc nL i al a = some r) (hl : sy_l xs al l) (hs : sy_s xs a t) : ∃ w, mi_loc nL i l t = some w ∧ sy_l xs r.1 w.1 ∧ sy_s xs r.2 w.2 := by
  unfold mi_loc at h
  split at h
  case h_14 => cases h
  case h_13 =>
    obtain ⟨q, hq, e1⟩ := Option.map_eq_some_iff.mp h
    cases e1
    unfold mi_inc at hq
    split at hq
    · next x hg =>
      obtain ⟨v, hv, hr⟩ := sy_lget hl hg
      cases hr
      split at hq
      · next hc =>
        cases hq
        refine ⟨(mi_st1 l _ (.int _), t), ?_, sy_st1 rfl hl, hs⟩
        show (mi_inc _ _ _ _).map _ = _
        unfold mi_inc
        rw [hv]
        simp only [if_pos hc, Option.map_some]
      · cases hq
    · cases hq
  case h_7 => exact sy_sto_a h hl hs
  case h_8 => exact sy_sto_a h hl hs
  case h_9 => exact sy_sto_a h hl hs
  case h_10 => exact sy_sto_a h hl hs
  case h_11 => exact sy_sto_a h hl hs
  case h_12 => exact sy_sto_a h hl hs
  all_goals
    obtain ⟨q, hq, e1⟩ := Option.map_eq_some_iff.mp h
    cases e1
    obtain ⟨w, hw, hr⟩ := sy_ld_a hq hl hs
    refine ⟨(l, w), ?_, hl, hr⟩
    show (mi_ld _ _ _ _).map _ = _
    rw [hw]
    rfl
theorem sy_loc_ok {xs : Nat → Int32} {nL : Nat} {i : Instr} {al l : mi_L} {a t : List Value} {r : mi_L × List Value} (h : sy_loc nL i al a = some r) (hl : sy_l xs al l) (hs : sy_s xs a t) : ∃ w, mi_loc nL i l t = some w ∧ sy_l xs r.1 w.1 ∧ sy_s xs r.2 w.2 := by
  unfold sy_loc at h
  split at h
  · next q hq => cases h; exact sy_loc_a hq hl hs
  · split at h
    · split at h
      · next v hg =>
        cases h
        obtain ⟨u, hu, hr⟩ := sy_lget hl hg
        obtain ⟨x, rfl, hx⟩ := hr
        refine ⟨(l, .int x :: t), ?_, hl, _, _, rfl, ⟨x, rfl, hx⟩, hs⟩
        show (mi_ld 0 _ _ _).map _ = _
        unfold mi_ld
        rw [hu]
        rfl
      · cases h
    · split at h
      · next v hg =>
        cases h
        obtain ⟨u, hu, hr⟩ := sy_lget hl hg
        obtain ⟨x, rfl, hx⟩ := hr
        refine ⟨(l, .int x :: t), ?_, hl, _, _, rfl, ⟨x, rfl, hx⟩, hs⟩
        show (mi_ld 0 _ _ _).map _ = _
        unfold mi_ld
        rw [hu]
        rfl
      · cases h
    · split at h
      · next v hg =>
        cases h
        obtain ⟨u, hu, hr⟩ := sy_lget hl hg
        obtain ⟨x, rfl, hx⟩ := hr
        refine ⟨(l, .long x.toInt64 :: t), ?_, hl, _, _, rfl, ⟨x, rfl, hx⟩, hs⟩
        show (mi_ld 1 _ _ _).map _ = _
        unfold mi_ld
        rw [hu]
        rfl
      · cases h
    · split at h
      · split at h
        · next hc =>
          cases h
          obtain ⟨u, w, rfl, hu, hw⟩ := hs
          obtain ⟨x, rfl, hx⟩ := hu
          exact ⟨_, if_pos ⟨rfl, hc⟩, sy_st1 ⟨x, rfl, hx⟩ hl, hw⟩
        · cases h
      · cases h
    · split at h
      · split at h
        · next hc =>
          cases h
          obtain ⟨u, w, rfl, hu, hw⟩ := hs
          obtain ⟨x, rfl, hx⟩ := hu
          exact ⟨_, if_pos ⟨rfl, hc⟩, sy_st1 ⟨x, rfl, hx⟩ hl, hw⟩
        · cases h
      · cases h
    · cases h
def sy_jmp (V : sy_V) (i : Instr) (pc : Nat) (st : List Value) : Option (Nat × List Value) := match mi_jmp i pc st with
  | some q => some q
  | none => match i, st with
    | .if_icmp k off, .int y :: .float v :: r => if v.toNat < 6 then (match mi_tgt pc off, sy_dec k (V.2.2 v.toNat).1 (V.2.2 v.toNat).2.1 y.toInt with
      | some t, some b => some (if b = true then t else pc + 3, r)
      | _, _ => none) else none
    | .ifCond k off, .float v :: r => if v.toNat < 6 then (match mi_tgt pc off, sy_dec k (V.2.2 v.toNat).1 (V.2.2 v.toNat).2.1 (0 : Int32).toInt with
      | some t, some b => some (if b = true then t else pc + 3, r)
      | _, _ => none) else none
    | _, _ => none
theorem sy_jmp_a {xs : Nat → Int32} {i : Instr} {pc : Nat} {a t : List Value} {r : Nat × List Value} (h : mi_jmp i pc a = some r) (hs : sy_s xs a t) : ∃ w, mi_jmp i pc t = some w ∧ w.1 = r.1 ∧ sy_s xs r.2 w.2 := by
  unfold mi_jmp at h
  split at h
  · obtain ⟨n, hn, e1⟩ := Option.map_eq_some_iff.mp h
    cases e1
    refine ⟨(n, t), ?_, rfl, hs⟩
    show (mi_tgt _ _).map _ = _
    rw [hn]
    rfl
  · obtain ⟨n, hn, e1⟩ := Option.map_eq_some_iff.mp h
    cases e1
    obtain ⟨v, w, rfl, hv, u, z, rfl, hu, hz⟩ := hs
    cases hv; cases hu
    refine ⟨(_, z), ?_, rfl, hz⟩
    show (mi_tgt _ _).map _ = _
    rw [hn]
    rfl
  · obtain ⟨n, hn, e1⟩ := Option.map_eq_some_iff.mp h
    cases e1
    obtain ⟨v, w, rfl, hv, hw⟩ := hs
    cases hv
    refine ⟨(_, w), ?_, rfl, hw⟩
    show (mi_tgt _ _).map _ = _
    rw [hn]
    rfl
  · obtain ⟨v, w, rfl, hv, hw⟩ := hs
    cases hv
    split at h
    · next hc =>
      obtain ⟨n, hn, e1⟩ := Option.map_eq_some_iff.mp h
      cases e1
      refine ⟨(n, w), ?_, rfl, hw⟩
      unfold mi_jmp
      simp only [if_pos hc, hn, Option.map_some]
    · next hc =>
      split at h
      · next off ho =>
        obtain ⟨n, hn, e1⟩ := Option.map_eq_some_iff.mp h
        cases e1
        refine ⟨(n, w), ?_, rfl, hw⟩
        unfold mi_jmp
        simp only [if_neg hc, ho, hn, Option.map_some]
      · cases h
  · obtain ⟨v, w, rfl, hv, hw⟩ := hs
    cases hv
    split at h
    · next hc =>
      obtain ⟨n, hn, e1⟩ := Option.map_eq_some_iff.mp h
      cases e1
      refine ⟨(n, w), ?_, rfl, hw⟩
      unfold mi_jmp
      simp only [if_pos hc, hn, Option.map_some]
    · cases h
  · cases h
theorem sy_jmp_ok {V : sy_V} {L : Nat} {xs : Nat → Int32} (hV : sy_ok V L xs) {i : Instr} {pc : Nat} {a t : List Value} {r : Nat × List Value} (h : sy_jmp V i pc a = some r) (hs : sy_s xs a t) : ∃ w, mi_jmp i pc t = some w ∧ w.1 = r.1 ∧ sy_s xs r.2 w.2 := by
  unfold sy_jmp at h
  split at h
  · next q hq => cases h; exact sy_jmp_a hq hs
  · split at h
    · split at h
      · next hk =>
        split at h
        · next n b hn hb =>
          cases h
          obtain ⟨v, w, rfl, hv, u, z, rfl, hu, hz⟩ := hs
          cases hv
          obtain ⟨x, rfl, hx⟩ := hu
          have hB := hV.2.2 _ hk
          rw [← hx hk] at hB
          have hc := sy_dec_ok hb hB.1 hB.2
          refine ⟨(_, z), ?_, rfl, hz⟩
          show (mi_tgt _ _).map _ = _
          rw [hn, ← hc]
          rfl
        · cases h
      · cases h
    · split at h
      · next hk =>
        split at h
        · next n b hn hb =>
          cases h
          obtain ⟨v, w, rfl, hv, hw⟩ := hs
          obtain ⟨x, rfl, hx⟩ := hv
          have hB := hV.2.2 _ hk
          rw [← hx hk] at hB
          have hc := sy_dec_ok hb hB.1 hB.2
          refine ⟨(_, w), ?_, rfl, hw⟩
          show (mi_tgt _ _).map _ = _
          rw [hn, ← hc]
          rfl
        · cases h
      · cases h
    · cases h
