/-! Runs of the small machine over a script of which bounds alone are known: .float k is the script's int k (from 6 on: any int), .double k the same as a long. sy_ rows. -/
def sy_v (xs : Nat → Int32) (a v : Value) : Prop := match a with
  | .float k => ∃ x, v = .int x ∧ (k.toNat < 6 → x = xs k.toNat)
  | .double k => ∃ x : Int32, v = .long x.toInt64 ∧ (k.toNat < 6 → x = xs k.toNat)
  | .int y => v = .int y
  | .long y => v = .long y
  | .null => v = .null
  | .ref y => v = .ref y
  | .retAddr y => v = .retAddr y
def sy_s (xs : Nat → Int32) : List Value → List Value → Prop
  | [], t => t = []
  | a :: r, t => ∃ v w, t = v :: w ∧ sy_v xs a v ∧ sy_s xs r w
def sy_l (xs : Nat → Int32) : mi_L → mi_L → Prop
  | [], t => t = []
  | a :: r, t => ∃ v w, t = (a.1, v) :: w ∧ sy_v xs a.2 v ∧ sy_l xs r w
theorem sy_cat {xs : Nat → Int32} {a v : Value} (h : sy_v xs a v) : v.category = a.category := by
  cases a with
  | float k => obtain ⟨x, rfl, -⟩ := h; rfl
  | double k => obtain ⟨x, rfl, -⟩ := h; rfl
  | int y => cases h; rfl
  | long y => cases h; rfl
  | null => cases h; rfl
  | ref y => cases h; rfl
  | retAddr y => cases h; rfl
theorem sy_wt {xs : Nat → Int32} : ∀ {a t : List Value}, sy_s xs a t → mi_wt t = mi_wt a := by
  intro a
  induction a with
  | nil => intro t h; cases h; rfl
  | cons a r ih =>
    intro t h
    obtain ⟨v, w, rfl, hv, hr⟩ := h
    have h1 := ih hr
    unfold mi_wt at h1 ⊢
    simp only [List.map_cons, List.sum_cons, sy_cat hv, h1]
theorem sy_len {xs : Nat → Int32} : ∀ {a t : List Value}, sy_s xs a t → t.length = a.length := by
  intro a
  induction a with
  | nil => intro t h; cases h; rfl
  | cons a r ih =>
    intro t h
    obtain ⟨v, w, rfl, hv, hr⟩ := h
    simp only [List.length_cons, ih hr]
theorem sy_drop {xs : Nat → Int32} : ∀ {a t : List Value} (n : Nat), sy_s xs a t → sy_s xs (a.drop n) (t.drop n) := by
  intro a
  induction a with
  | nil => intro t n h; cases h; simp only [List.drop_nil]; rfl
  | cons a r ih =>
    intro t n h
    cases n with
    | zero => exact h
    | succ n =>
      obtain ⟨v, w, rfl, hv, hr⟩ := h
      exact ih n hr
theorem sy_take {xs : Nat → Int32} : ∀ {a t : List Value} (n : Nat), sy_s xs a t → sy_s xs (a.take n) (t.take n) := by
  intro a
  induction a with
  | nil => intro t n h; cases h; simp only [List.take_nil]; rfl
  | cons a r ih =>
    intro t n h
    cases n with
    | zero => rfl
    | succ n =>
      obtain ⟨v, w, rfl, hv, hr⟩ := h
      exact ⟨v, _, rfl, hv, ih n hr⟩
theorem sy_app {xs : Nat → Int32} : ∀ {a t a' t' : List Value}, sy_s xs a t → sy_s xs a' t' → sy_s xs (a ++ a') (t ++ t') := by
  intro a
  induction a with
  | nil => intro t a' t' h h'; cases h; exact h'
  | cons a r ih =>
    intro t a' t' h h'
    obtain ⟨v, w, rfl, hv, hr⟩ := h
    exact ⟨v, _, rfl, hv, ih hr h'⟩
theorem sy_rev {xs : Nat → Int32} : ∀ {a t : List Value}, sy_s xs a t → sy_s xs a.reverse t.reverse := by
  intro a
  induction a with
  | nil => intro t h; cases h; rfl
  | cons a r ih =>
    intro t h
    obtain ⟨v, w, rfl, hv, hr⟩ := h
    rw [List.reverse_cons, List.reverse_cons]
    exact sy_app (ih hr) ⟨v, [], rfl, hv, rfl⟩
theorem sy_lget {xs : Nat → Int32} {i : Nat} {a : Value} : ∀ {al l : mi_L}, sy_l xs al l → mi_lget al i = some a → ∃ v, mi_lget l i = some v ∧ sy_v xs a v := by
  intro al
  induction al with
  | nil => intro l h hg; cases hg
  | cons q r ih =>
    intro l h hg
    obtain ⟨v, w, rfl, hv, hr⟩ := h
    unfold mi_lget at hg ⊢
    rw [List.find?_cons] at hg ⊢
    cases hq : (q.1 == i) with
    | true =>
      simp only [hq, Option.map_some, Option.some.injEq] at hg ⊢
      subst hg
      exact ⟨v, rfl, hv⟩
    | false =>
      simp only [hq] at hg ⊢
      exact ih hr hg
theorem sy_filter {xs : Nat → Int32} {p : Nat × Value → Bool} (hp : ∀ n a v, a.category = v.category → p (n, a) = p (n, v)) : ∀ {al l : mi_L}, sy_l xs al l → sy_l xs (al.filter p) (l.filter p) := by
  intro al
  induction al with
  | nil => intro l h; cases h; rfl
  | cons q r ih =>
    intro l h
    obtain ⟨v, w, rfl, hv, hr⟩ := h
    have hq : p q = p (q.1, v) := hp q.1 q.2 v (sy_cat hv).symm
    rw [List.filter_cons, List.filter_cons, ← hq]
    cases hc : p q with
    | true => exact ⟨v, _, rfl, hv, ih hr⟩
    | false => exact ih hr
theorem sy_st1 {xs : Nat → Int32} {i : Nat} {a v : Value} {al l : mi_L} (hv : sy_v xs a v) (h : sy_l xs al l) : sy_l xs (mi_st1 al i a) (mi_st1 l i v) :=
  ⟨v, _, rfl, hv, sy_filter (fun n a v hc => by simp only [hc]) h⟩
theorem sy_st2 {xs : Nat → Int32} {i : Nat} {a v : Value} {al l : mi_L} (hv : sy_v xs a v) (h : sy_l xs al l) : sy_l xs (mi_st2 al i a) (mi_st2 l i v) :=
  ⟨v, _, rfl, hv, sy_filter (fun n a v hc => by simp only [hc]) h⟩
theorem sy_sub {xs : Nat → Int32} {i : Nat} {al l : mi_L} (h : sy_l xs al l) : sy_l xs (mi_sub al i) (mi_sub l i) :=
  sy_filter (fun n a v hc => by simp only [hc]) h
theorem sy_args {xs : Nat → Int32} : ∀ {a t : List Value} (i : Nat), sy_s xs a t → sy_l xs (lv_args i a) (lv_args i t) := by
  intro a
  induction a with
  | nil => intro t i h; cases h; rfl
  | cons a r ih =>
    intro t i h
    obtain ⟨v, w, rfl, hv, hr⟩ := h
    refine ⟨v, _, rfl, hv, ?_⟩
    rw [sy_cat hv]
    exact ih _ hr
/-- an array of ints of which its length alone is known; arrays of zeros as data (0 ints, 1 longs, else booleans) -/
def sy_hv (n : Nat) : mi_E := .inr (2000000, [.ref n])
def sy_za (k n : Nat) : FieldType × vp_A := if k = 0 then (.int, n, .inl (fun _ => 0)) else if k = 1 then (.long, n, .inr (.inl (fun _ => 0))) else (.boolean, n, .inl (fun _ => 0))
def sy_un (x : mi_E) : mi_E := match x with
  | .inr (c, [.ref k, .ref n]) => bif Nat.beq c 2000001 then .inl (sy_za k n) else .inr (c, [.ref k, .ref n])
  | x => x
def sy_good (x : mi_E) : Bool := match x with
  | .inr q => !(q.1 == 2000000)
  | .inl _ => true
def sy_obj (x : mi_E) : Bool := match x with
  | .inr q => Nat.blt q.1 1000000
  | .inl _ => false
theorem sy_un_obj {x : mi_E} (h : sy_obj x = true) : sy_un x = x := by
  unfold sy_un
  split
  · next c k n =>
    have h1 : Nat.blt c 1000000 = true := h
    have h2 : c < 1000000 := Nat.blt_eq.mp h1
    have h3 : Nat.beq c 2000001 = false := Bool.eq_false_iff.mpr (fun q => by have := Nat.eq_of_beq_eq_true q; omega)
    rw [h3]
    rfl
  · rfl
def sy_e (A y : mi_E) : Prop := (y = sy_un A ∧ sy_good (sy_un A) = true) ∨ ∃ (n : Nat) (f : Nat → Int32), A = sy_hv n ∧ y = .inl (.int, n, .inl f)
def sy_h (A h : mi_H) : Prop := h.1 = A.1 ∧ h.2.1 = A.2.1 ∧ ∀ a, a < A.1 → sy_e (A.2.2 a) (h.2.2 a)
theorem sy_get {A h : mi_H} {a : Nat} {x : mi_E} (H : sy_h A h) (hg : mi_get A a = some x) : ∃ y, mi_get h a = some y ∧ sy_e x y := by
  unfold mi_get at hg ⊢
  rw [H.1]
  split at hg
  · next hl => cases hg; rw [if_pos hl]; exact ⟨_, rfl, H.2.2 a hl⟩
  · cases hg
/-- what stands at a place, arrays of zeros as such -/
def sy_gt (A : mi_H) (a : Nat) : Option mi_E := match mi_get A a with
  | some x => some (sy_un x)
  | none => none
theorem sy_gt_g {A h : mi_H} {a : Nat} {x : mi_E} (H : sy_h A h) (hg : sy_gt A a = some x) (hx : sy_good x = true) : mi_get h a = some x := by
  unfold sy_gt at hg
  split at hg
  · next z hz =>
    cases hg
    obtain ⟨y, hy, he⟩ := sy_get H hz
    rcases he with ⟨rfl, -⟩ | ⟨n, f, rfl, rfl⟩
    · exact hy
    · exact absurd hx (by simp [sy_good, sy_un, sy_hv])
  · cases hg
theorem sy_set {A h : mi_H} {a : Nat} {x y : mi_E} (H : sy_h A h) (hx : sy_e x y) : sy_h (mi_set A a x) (mi_set h a y) := by
  refine ⟨H.1, H.2.1, fun j hj => ?_⟩
  show sy_e (if j = a then x else A.2.2 j) (if j = a then y else h.2.2 j)
  split
  · exact hx
  · exact H.2.2 j hj
theorem sy_push {A h : mi_H} {n : Nat} {x y : mi_E} (H : sy_h A h) (hx : sy_e x y) : sy_h (mi_push A n x) (mi_push h n y) := by
  refine ⟨congrArg (· + 1) H.1, congrArg (· + n) H.2.1, fun j hj => ?_⟩
  show sy_e (if j = A.1 then x else A.2.2 j) (if j = h.1 then y else h.2.2 j)
  rw [H.1]
  split
  · exact hx
  · have hj : j < A.1 + 1 := hj
    exact H.2.2 j (by omega)
theorem sy_inl (q : FieldType × vp_A) : sy_e (.inl q) (.inl q) := Or.inl ⟨rfl, rfl⟩
theorem sy_dead : sy_e mi_dead mi_dead := Or.inl ⟨rfl, rfl⟩
theorem sy_objs {x : mi_E} (h : sy_obj x = true) : sy_e x x := by
  refine Or.inl ⟨(sy_un_obj h).symm, ?_⟩
  rw [sy_un_obj h]
  cases x with
  | inl q => rfl
  | inr q =>
    have h1 : Nat.blt q.1 1000000 = true := h
    have h2 : q.1 < 1000000 := Nat.blt_eq.mp h1
    have h3 : q.1 ≠ 2000000 := by omega
    show (!(q.1 == 2000000)) = true
    simp [h3]
/-- the kinds of instructions -/
def sy_kd (i : Instr) : Nat := match i with
  | .iload_n _ | .iload _ | .lload_n _ | .lload _ | .aload_n _ | .aload _ | .istore_n _ | .istore _ | .lstore_n _ | .lstore _ | .astore_n _ | .astore _ | .iinc _ _ => 1
  | .goto _ | .if_icmp _ _ | .ifCond _ _ | .tableswitch _ _ _ _ | .lookupswitch _ _ => 2
  | .getfield _ | .putfield _ | .iaload | .laload | .baload | .iastore | .lastore | .bastore | .arraylength | .newarray _ | .new _ | .ldc _ | .ldc_w _ | .ldc2_w _ => 3
  | .ireturn | .lreturn | .areturn | .return_ => 4
  | .invokevirtual _ | .invokestatic _ | .invokespecial _ => 5
  | _ => 0
theorem sy_kd0 {i : Instr} {st r : List Value} (h : mi_pure i st = some r) : sy_kd i = 0 := by
  unfold mi_pure at h
  split at h <;> first | rfl | cases h
theorem sy_kd1 {nL : Nat} {i : Instr} {lv : mi_L} {st : List Value} {r : mi_L × List Value} (h : mi_loc nL i lv st = some r) : sy_kd i = 1 := by
  unfold mi_loc at h
  split at h <;> first | rfl | cases h
theorem sy_kd2 {i : Instr} {pc : Nat} {st : List Value} {r : Nat × List Value} (h : mi_jmp i pc st = some r) : sy_kd i = 2 := by
  unfold mi_jmp at h
  split at h <;> first | rfl | cases h
theorem sy_kd3 {P : mi_P} {L : Nat} {xs : Nat → Int32} {j : Nat} {i : Instr} {st : List Value} {g : mi_H} {r : List Value × mi_H} (h : mi_heap P L xs j i st g = some r) : sy_kd i = 3 := by
  unfold mi_heap at h
  split at h <;> first | rfl | cases h
theorem sy_kd4 {rt : Option FieldType} {i : Instr} {st : List Value} {r : Option Value} (h : mi_ret rt i st = some r) : sy_kd i = 4 := by
  unfold mi_ret at h
  split at h <;> first | rfl | cases h
section SyStep
variable {P : mi_P} {L : Nat} {xs : Nat → Int32} {call : mi_C} {j pc : Nat} {i : Instr} {lv : mi_L} {st : List Value} {g : mi_H}
theorem sy_no0 (h : sy_kd i ≠ 0) : mi_pure i st = none := by
  cases hq : mi_pure i st with
  | none => rfl
  | some r => exact absurd (sy_kd0 hq) h
theorem sy_no1 {nL : Nat} (h : sy_kd i ≠ 1) : mi_loc nL i lv st = none := by
  cases hq : mi_loc nL i lv st with
  | none => rfl
  | some r => exact absurd (sy_kd1 hq) h
theorem sy_no2 (h : sy_kd i ≠ 2) : mi_jmp i pc st = none := by
  cases hq : mi_jmp i pc st with
  | none => rfl
  | some r => exact absurd (sy_kd2 hq) h
theorem sy_no3 (h : sy_kd i ≠ 3) : mi_heap P L xs j i st g = none := by
  cases hq : mi_heap P L xs j i st g with
  | none => rfl
  | some r => exact absurd (sy_kd3 hq) h
theorem sy_no4 {rt : Option FieldType} (h : sy_kd i ≠ 4) : mi_ret rt i st = none := by
  cases hq : mi_ret rt i st with
  | none => rfl
  | some r => exact absurd (sy_kd4 hq) h
theorem sy_step0 (ht : mi_th P j pc = none) (hi : mi_is P j pc = some i) {r : List Value} (h : mi_pure i st = some r) : mi_step P L xs call j pc lv st g = some (.inl (pc + mi_len i, lv, r, g)) := by
  unfold mi_step
  simp only [ht, hi, h]
theorem sy_step1 (ht : mi_th P j pc = none) (hi : mi_is P j pc = some i) {r : mi_L × List Value} (h : mi_loc (mi_mx P j) i lv st = some r) : mi_step P L xs call j pc lv st g = some (.inl (pc + mi_len i, r.1, r.2, g)) := by
  have hk := sy_kd1 h
  unfold mi_step
  simp only [ht, hi, h, sy_no0 (st := st) (show sy_kd i ≠ 0 by rw [hk]; decide)]
theorem sy_step2 (ht : mi_th P j pc = none) (hi : mi_is P j pc = some i) {r : Nat × List Value} (h : mi_jmp i pc st = some r) : mi_step P L xs call j pc lv st g = some (.inl (r.1, lv, r.2, g)) := by
  have hk := sy_kd2 h
  unfold mi_step
  simp only [ht, hi, h, sy_no0 (st := st) (show sy_kd i ≠ 0 by rw [hk]; decide), sy_no1 (lv := lv) (st := st) (show sy_kd i ≠ 1 by rw [hk]; decide)]
theorem sy_step3 (ht : mi_th P j pc = none) (hi : mi_is P j pc = some i) {r : List Value × mi_H} (h : mi_heap P L xs j i st g = some r) : mi_step P L xs call j pc lv st g = some (.inl (pc + mi_len i, lv, r.1, r.2)) := by
  have hk := sy_kd3 h
  unfold mi_step
  simp only [ht, hi, h, sy_no0 (st := st) (show sy_kd i ≠ 0 by rw [hk]; decide), sy_no1 (lv := lv) (st := st) (show sy_kd i ≠ 1 by rw [hk]; decide), sy_no2 (st := st) (show sy_kd i ≠ 2 by rw [hk]; decide)]
theorem sy_step4 (ht : mi_th P j pc = none) (hi : mi_is P j pc = some i) {r : Option Value} (h : mi_ret (mi_rt P j) i st = some r) : mi_step P L xs call j pc lv st g = some (.inr (.inl r, g)) := by
  have hk := sy_kd4 h
  unfold mi_step
  simp only [ht, hi, h, sy_no0 (st := st) (show sy_kd i ≠ 0 by rw [hk]; decide), sy_no1 (lv := lv) (st := st) (show sy_kd i ≠ 1 by rw [hk]; decide), sy_no2 (st := st) (show sy_kd i ≠ 2 by rw [hk]; decide), sy_no3 (st := st) (show sy_kd i ≠ 3 by rw [hk]; decide)]
theorem sy_step5 (ht : mi_th P j pc = none) (hi : mi_is P j pc = some i) (hk : sy_kd i = 5) {q : mi_S} (h : mi_inv P call j i pc lv st g = some q) : mi_step P L xs call j pc lv st g = some q := by
  unfold mi_step
  simp only [ht, hi, h, sy_no0 (st := st) (show sy_kd i ≠ 0 by rw [hk]; decide), sy_no1 (lv := lv) (st := st) (show sy_kd i ≠ 1 by rw [hk]; decide), sy_no2 (st := st) (show sy_kd i ≠ 2 by rw [hk]; decide), sy_no3 (st := st) (show sy_kd i ≠ 3 by rw [hk]; decide), sy_no4 (st := st) (show sy_kd i ≠ 4 by rw [hk]; decide)]
end SyStep
