/-! The steps in the heap, calls, whole runs over bounds. -/
def sy_pl (v : Value) : Bool := match v with
  | .float _ => false
  | .double _ => false
  | _ => true
theorem sy_pl_ok {xs : Nat → Int32} {v : Value} (h : sy_pl v = true) : sy_v xs v v := by
  cases v with
  | float k => cases h
  | double k => cases h
  | int y => rfl
  | long y => rfl
  | null => rfl
  | ref y => rfl
  | retAddr y => rfl
theorem sy_pl_eq {xs : Nat → Int32} {a v : Value} (h : sy_v xs a v) (hp : sy_pl a = true) : v = a := by
  cases a with
  | float k => cases hp
  | double k => cases hp
  | int y => exact h
  | long y => exact h
  | null => exact h
  | ref y => exact h
  | retAddr y => exact h
def sy_gd (h : mi_H) (a : Nat) : Bool := match mi_get h a with
  | some x => sy_obj x
  | none => false
theorem sy_gd_ok {A h : mi_H} {a : Nat} (H : sy_h A h) (hg : sy_gd A a = true) : mi_get h a = mi_get A a := by
  unfold sy_gd at hg
  split at hg
  · next x hx =>
    rw [hx]
    obtain ⟨y, hy, he⟩ := sy_get H hx
    rcases he with ⟨rfl, -⟩ | ⟨n, f, rfl, rfl⟩
    · rw [sy_un_obj hg] at hy; exact hy
    · exact absurd hg (by simp [sy_obj, sy_hv, Nat.blt])
  · cases hg
/-- steps in arrays -/
def sy_ai4 (a : Nat) (x : Int32) (h : mi_H) : Option Value := match sy_gt h a with
  | some (.inl (.int, n, .inl f)) => if a = 0 ∨ x < 0 ∨ n ≤ x.toNatClampNeg then none else some (.int (f x.toNatClampNeg))
  | _ => none
def sy_ai8 (a : Nat) (x : Int32) (h : mi_H) : Option Value := match sy_gt h a with
  | some (.inl (.long, n, .inr (.inl f))) => if a = 0 ∨ x < 0 ∨ n ≤ x.toNatClampNeg then none else some (.long (f x.toNatClampNeg))
  | _ => none
def sy_ai1 (a : Nat) (x : Int32) (h : mi_H) : Option Value := match sy_gt h a with
  | some (.inl (.boolean, n, .inl f)) => if a = 0 ∨ x < 0 ∨ n ≤ x.toNatClampNeg then none else some (.int (f x.toNatClampNeg))
  | _ => none
def sy_si4 (a : Nat) (x v : Int32) (h : mi_H) : Option mi_H := match sy_gt h a with
  | some (.inl (.int, n, .inl f)) => if a = 0 ∨ x < 0 ∨ n ≤ x.toNatClampNeg then none else some (mi_set h a (.inl (.int, n, .inl (upd f x.toNatClampNeg v))))
  | _ => none
def sy_si8 (a : Nat) (x : Int32) (v : Int64) (h : mi_H) : Option mi_H := match sy_gt h a with
  | some (.inl (.long, n, .inr (.inl f))) => if a = 0 ∨ x < 0 ∨ n ≤ x.toNatClampNeg then none else some (mi_set h a (.inl (.long, n, .inr (.inl (vp_updL f x.toNatClampNeg v)))))
  | _ => none
def sy_si1 (a : Nat) (x v : Int32) (h : mi_H) : Option mi_H := match sy_gt h a with
  | some (.inl (.boolean, n, .inl f)) => if a = 0 ∨ x < 0 ∨ n ≤ x.toNatClampNeg then none else if mi_fit .boolean (.int v) = true then some (mi_set h a (.inl (.boolean, n, .inl (upd f x.toNatClampNeg v)))) else none
  | _ => none
def sy_len4 (a : Nat) (h : mi_H) : Option Value := if a = 0 then none else match sy_gt h a with
  | some (.inl (.int, x)) => some (.int (Int32.ofNat x.1))
  | some (.inl (.long, x)) => some (.int (Int32.ofNat x.1))
  | some (.inl (.boolean, x)) => some (.int (Int32.ofNat x.1))
  | some (.inr (c, [.ref n])) => if c = 2000000 then some (.int (Int32.ofNat n)) else none
  | _ => none
def sy_sif (a : Nat) (x : Int32) (h : mi_H) : Option mi_H := match sy_gt h a with
  | some (.inl (.int, n, .inl _)) => if a = 0 ∨ x < 0 ∨ n ≤ x.toNatClampNeg then none else some (mi_set h a (sy_hv n))
  | some (.inr (c, [.ref n])) => if c = 2000000 then (if a = 0 ∨ x < 0 ∨ n ≤ x.toNatClampNeg then none else some h) else none
  | _ => none
def sy_zk (t : ArrayType) : Option Nat := match t with
  | .int => some 0
  | .long => some 1
  | .boolean => some 2
  | _ => none
def sy_heap (P : mi_P) (V : sy_V) (j : Nat) (i : Instr) (st : List Value) (h : mi_H) : Option (List Value × mi_H) := match i, st with
  | .getfield ix, .ref a :: r => if sy_gd h a = true then (match mi_get_f P j ix a h with
    | some v => if sy_pl v = true then some (v :: r, h) else none
    | none => none) else none
  | .putfield ix, v :: .ref a :: r => if sy_gd h a = true ∧ sy_pl v = true then (mi_put_f P j ix a v h).map (fun g => (r, g)) else none
  | .iaload, .int x :: .ref a :: r =>
    if a = 0 then (if x < 0 ∨ V.2.1 ≤ x.toNatClampNeg ∨ 6 ≤ x.toNatClampNeg ∨ 7 ≤ V.2.1 then none else
      some ((if (V.2.2 x.toNatClampNeg).1 = (V.2.2 x.toNatClampNeg).2.1 then .int (Int32.ofInt (V.2.2 x.toNatClampNeg).1) else .float (UInt32.ofNat x.toNatClampNeg)) :: r, h))
    else (sy_ai4 a x h).map (fun v => (v :: r, h))
  | .laload, .int x :: .ref a :: r => (sy_ai8 a x h).map (fun v => (v :: r, h))
  | .baload, .int x :: .ref a :: r => (sy_ai1 a x h).map (fun v => (v :: r, h))
  | .iastore, .int v :: .int x :: .ref a :: r => (sy_si4 a x v h).map (fun g => (r, g))
  | .iastore, .float _ :: .int x :: .ref a :: r => (sy_sif a x h).map (fun g => (r, g))
  | .lastore, .long v :: .int x :: .ref a :: r => (sy_si8 a x v h).map (fun g => (r, g))
  | .bastore, .int v :: .int x :: .ref a :: r => (sy_si1 a x v h).map (fun g => (r, g))
  | .arraylength, .ref a :: r =>
    if a = 0 then (if V.2.1 < 7 then some (.int (Int32.ofNat V.2.1) :: r, h) else none)
    else (sy_len4 a h).map (fun v => (v :: r, h))
  | .newarray t, .int n :: r => if n < 0 ∨ 536870912 < n.toNatClampNeg * 8 then none else (sy_zk t).map (fun k => (.ref h.1 :: r, mi_push h n.toNatClampNeg (.inr (2000001, [.ref k, .ref n.toNatClampNeg]))))
  | .new ix, r => (match mi_nw P j ix with
    | some ci => if 1000000 ≤ ci then none else some (.ref h.1 :: r, mi_push h (mi_nf P ci) (.inr (ci, mi_dfs (mi_ft P) ci (mi_nf P ci))))
    | none => none)
  | .ldc ix, r => (match mi_cs P j ix with
    | some (.int x) => some (.int x :: r, h)
    | some (.retAddr t) => some (.retAddr t :: r, h)
    | _ => none)
  | .ldc_w ix, r => (match mi_cs P j ix with
    | some (.int x) => some (.int x :: r, h)
    | _ => none)
  | .ldc2_w ix, r => (match mi_cs P j ix with
    | some (.long x) => some (.long x :: r, h)
    | _ => none)
  | _, _ => none
section SyHeap
variable {A h : mi_H} {a : Nat} {x : Int32}
theorem sy_ld_i4 {L : Nat} {xs : Nat → Int32} {v : Value} (H : sy_h A h) (hh : sy_ai4 a x A = some v) : mi_ld_i4 L xs a x h = some v ∧ sy_pl v = true := by
  unfold sy_ai4 at hh
  split at hh
  · next n f hg =>
    split at hh
    · cases hh
    · next hc =>
      cases hh
      refine ⟨?_, rfl⟩
      unfold mi_ld_i4
      rw [if_neg (fun q => hc (Or.inl q)), sy_gt_g H hg rfl]
      exact if_neg (fun q => hc (Or.inr q))
  · cases hh
theorem sy_ld_i8 {v : Value} (H : sy_h A h) (hh : sy_ai8 a x A = some v) : mi_ld_i8 a x h = some v ∧ sy_pl v = true := by
  unfold sy_ai8 at hh
  split at hh
  · next n f hg =>
    split at hh
    · cases hh
    · next hc =>
      cases hh
      refine ⟨?_, rfl⟩
      unfold mi_ld_i8
      rw [sy_gt_g H hg rfl]
      exact if_neg hc
  · cases hh
theorem sy_ld_i1 {v : Value} (H : sy_h A h) (hh : sy_ai1 a x A = some v) : mi_ld_i1 a x h = some v ∧ sy_pl v = true := by
  unfold sy_ai1 at hh
  split at hh
  · next n f hg =>
    split at hh
    · cases hh
    · next hc =>
      cases hh
      refine ⟨?_, rfl⟩
      unfold mi_ld_i1
      rw [sy_gt_g H hg rfl]
      exact if_neg hc
  · cases hh
theorem sy_as_i4 {v : Int32} {A' : mi_H} (H : sy_h A h) (hh : sy_si4 a x v A = some A') : ∃ h', mi_as_i4 a x v h = some h' ∧ sy_h A' h' := by
  unfold sy_si4 at hh
  split at hh
  · next n f hg =>
    split at hh
    · cases hh
    · next hc =>
      cases hh
      unfold mi_as_i4
      rw [sy_gt_g H hg rfl]
      exact ⟨_, if_neg hc, sy_set H (sy_inl _)⟩
  · cases hh
theorem sy_as_i8 {v : Int64} {A' : mi_H} (H : sy_h A h) (hh : sy_si8 a x v A = some A') : ∃ h', mi_as_i8 a x v h = some h' ∧ sy_h A' h' := by
  unfold sy_si8 at hh
  split at hh
  · next n f hg =>
    split at hh
    · cases hh
    · next hc =>
      cases hh
      unfold mi_as_i8
      rw [sy_gt_g H hg rfl]
      exact ⟨_, if_neg hc, sy_set H (sy_inl _)⟩
  · cases hh
theorem sy_as_i1 {v : Int32} {A' : mi_H} (H : sy_h A h) (hh : sy_si1 a x v A = some A') : ∃ h', mi_as_i1 a x v h = some h' ∧ sy_h A' h' := by
  unfold sy_si1 at hh
  split at hh
  · next n f hg =>
    split at hh
    · cases hh
    · next hc =>
      split at hh
      · next hf =>
        cases hh
        unfold mi_as_i1
        rw [sy_gt_g H hg rfl]
        exact ⟨_, by simp only [if_neg hc, if_pos hf], sy_set H (sy_inl _)⟩
      · cases hh
  · cases hh
theorem sy_hav {n c : Nat} (H : sy_h A h) (hg : sy_gt A a = some (.inr (c, [.ref n]))) (hc : c = 2000000) : A.2.2 a = sy_hv n ∧ ∃ f : Nat → Int32, mi_get h a = some (.inl (.int, n, .inl f)) := by
  unfold sy_gt at hg
  split at hg
  · next z hz =>
    obtain ⟨y, hy, he⟩ := sy_get H hz
    rcases he with ⟨-, e1⟩ | ⟨m, f, rfl, rfl⟩
    · have hg := Option.some.inj hg
      rw [hg] at e1
      subst hc
      exact absurd e1 (by simp [sy_good])
    · have e2 : sy_un (sy_hv m) = .inr (2000000, [.ref m]) := rfl
      have hg := Option.some.inj hg
      rw [e2] at hg
      have e3 := (Prod.mk.inj (Sum.inr.inj hg)).2
      have e5 : m = n := Value.ref.inj (List.cons.inj e3).1
      subst e5
      refine ⟨?_, f, hy⟩
      unfold mi_get at hz
      split at hz
      · exact Option.some.inj hz
      · cases hz
  · cases hg
theorem sy_alen {L : Nat} {v : Value} (H : sy_h A h) (hh : sy_len4 a A = some v) : mi_alen L a h = some v ∧ sy_pl v = true := by
  unfold sy_len4 at hh
  split at hh
  · cases hh
  · next ha =>
    unfold mi_alen
    rw [if_neg ha]
    split at hh
    · next n hg => rw [sy_gt_g H hg rfl]; cases hh; exact ⟨rfl, rfl⟩
    · next n hg => rw [sy_gt_g H hg rfl]; cases hh; exact ⟨rfl, rfl⟩
    · next n hg => rw [sy_gt_g H hg rfl]; cases hh; exact ⟨rfl, rfl⟩
    · next c n hg =>
      split at hh
      · next hc =>
        obtain ⟨-, f, hf⟩ := sy_hav H hg hc
        rw [hf]
        cases hh
        exact ⟨rfl, rfl⟩
      · cases hh
    · cases hh
theorem sy_asf {v : Int32} {A' : mi_H} (H : sy_h A h) (hh : sy_sif a x A = some A') : ∃ h', mi_as_i4 a x v h = some h' ∧ sy_h A' h' := by
  unfold sy_sif at hh
  split at hh
  · next n f hg =>
    split at hh
    · cases hh
    · next hc =>
      cases hh
      unfold mi_as_i4
      rw [sy_gt_g H hg rfl]
      exact ⟨_, if_neg hc, sy_set H (Or.inr ⟨n, _, rfl, rfl⟩)⟩
  · next c n hg =>
    split at hh
    · next hc0 =>
      split at hh
      · cases hh
      · next hc =>
        cases hh
        obtain ⟨hA, f, hf⟩ := sy_hav H hg hc0
        unfold mi_as_i4
        rw [hf]
        refine ⟨_, if_neg hc, H.1, H.2.1, fun b hb => ?_⟩
        show sy_e (A.2.2 b) (if b = a then _ else h.2.2 b)
        split
        · next e1 => rw [e1, hA]; exact Or.inr ⟨n, _, rfl, rfl⟩
        · exact H.2.2 b hb
    · cases hh
  · cases hh
theorem sy_zero {t : ArrayType} {k n : Nat} (hk : sy_zk t = some k) : ∃ q, mi_zero t n = some q ∧ sy_e (.inr (2000001, [.ref k, .ref n])) (.inl q) := by
  unfold sy_zk at hk
  split at hk
  · cases hk; exact ⟨_, rfl, Or.inl ⟨rfl, rfl⟩⟩
  · cases hk; exact ⟨_, rfl, Or.inl ⟨rfl, rfl⟩⟩
  · cases hk; exact ⟨_, rfl, Or.inl ⟨rfl, rfl⟩⟩
  · cases hk
end SyHeap
theorem sy_get_f {P : mi_P} {j ix a : Nat} {A h : mi_H} {v : Value} (H : sy_h A h) (hg : sy_gd A a = true) (hh : mi_get_f P j ix a A = some v) : mi_get_f P j ix a h = some v := by
  unfold mi_get_f at hh ⊢
  rw [sy_gd_ok H hg]
  exact hh
theorem sy_put_f {P : mi_P} {j ix a : Nat} {A h A' : mi_H} {v : Value} (H : sy_h A h) (hg : sy_gd A a = true) (hh : mi_put_f P j ix a v A = some A') : ∃ h', mi_put_f P j ix a v h = some h' ∧ sy_h A' h' := by
  unfold mi_put_f at hh ⊢
  rw [sy_gd_ok H hg]
  unfold sy_gd at hg
  split at hh
  · next ci fs cj k w h1 h2 =>
    rw [h1] at hg
    split at hh
    · next hc =>
      cases hh
      exact ⟨_, if_pos hc, sy_set H (sy_objs hg)⟩
    · cases hh
  · cases hh
set_option maxHeartbeats 4000000 in
theorem sy_heap_ok {P : mi_P} {V : sy_V} {L : Nat} {xs : Nat → Int32} (hV : sy_ok V L xs) {j : Nat} {i : Instr} {a t : List Value} {A h : mi_H} {r : List Value × mi_H} (hh : sy_heap P V j i a A = some r) (hs : sy_s xs a t) (H : sy_h A h) : ∃ w, mi_heap P L xs j i t h = some w ∧ sy_s xs r.1 w.1 ∧ sy_h r.2 w.2 := by
  unfold sy_heap at hh
  split at hh
  · obtain ⟨v, w, rfl, hv, hw⟩ := hs
    cases hv
    split at hh
    · next hg =>
      split at hh
      · next u hu =>
        split at hh
        · next hp =>
          cases hh
          refine ⟨(u :: w, h), ?_, ⟨u, w, rfl, sy_pl_ok hp, hw⟩, H⟩
          show (mi_get_f P j _ _ h).map _ = _
          rw [sy_get_f H hg hu]
          rfl
        · cases hh
      · cases hh
    · cases hh
  · obtain ⟨v, w, rfl, hv, u, z, rfl, hu, hz⟩ := hs
    cases hu
    split at hh
    · next hg =>
      obtain ⟨G, hG, e1⟩ := Option.map_eq_some_iff.mp hh
      cases e1
      obtain ⟨g, hg1, hg2⟩ := sy_put_f H hg.1 hG
      have hv1 := sy_pl_eq hv hg.2
      subst hv1
      refine ⟨(z, g), ?_, hz, hg2⟩
      show (mi_put_f P j _ _ _ h).map _ = _
      rw [hg1]
      rfl
    · cases hh
  · obtain ⟨v, w, rfl, hv, u, z, rfl, hu, hz⟩ := hs
    cases hv; cases hu
    rename_i x ad r
    split at hh
    · next ha =>
      subst ha
      split at hh
      · cases hh
      · next hc =>
        simp only [not_or, Nat.not_le] at hc
        obtain ⟨c1, c2, c3, c4⟩ := hc
        have hL := hV.2.1 c4
        cases hh
        refine ⟨(.int (xs x.toNatClampNeg) :: z, h), ?_, ⟨_, z, rfl, ?_, hz⟩, H⟩
        · show (mi_ld_i4 L xs 0 _ h).map _ = _
          unfold mi_ld_i4
          rw [if_pos rfl, if_neg]
          · rfl
          · rw [hL]
            intro hq
            rcases hq with hq | hq
            · exact c1 hq
            · omega
        · have hB := hV.2.2 _ c3
          split
          · next he =>
            show Value.int _ = Value.int _
            congr 1
            rw [← Int32.toInt_inj]
            rw [Int32.toInt_ofInt_of_le]
            · omega
            · have := Int32.le_toInt (xs x.toNatClampNeg); omega
            · have := Int32.toInt_lt (xs x.toNatClampNeg); omega
          · refine ⟨_, rfl, fun _ => ?_⟩
            congr 1
            rw [UInt32.toNat_ofNat']
            omega
    · next ha =>
      obtain ⟨v, hv, e1⟩ := Option.map_eq_some_iff.mp hh
      cases e1
      obtain ⟨h1, h2⟩ := sy_ld_i4 (L := L) (xs := xs) H hv
      refine ⟨(v :: z, h), ?_, ⟨v, z, rfl, sy_pl_ok h2, hz⟩, H⟩
      show (mi_ld_i4 L xs _ _ h).map _ = _
      rw [h1]
      rfl
  · obtain ⟨v, w, rfl, hv, u, z, rfl, hu, hz⟩ := hs
    cases hv; cases hu
    obtain ⟨v, hv, e1⟩ := Option.map_eq_some_iff.mp hh
    cases e1
    obtain ⟨h1, h2⟩ := sy_ld_i8 H hv
    refine ⟨(v :: z, h), ?_, ⟨v, z, rfl, sy_pl_ok h2, hz⟩, H⟩
    show (mi_ld_i8 _ _ h).map _ = _
    rw [h1]
    rfl
  · obtain ⟨v, w, rfl, hv, u, z, rfl, hu, hz⟩ := hs
    cases hv; cases hu
    obtain ⟨v, hv, e1⟩ := Option.map_eq_some_iff.mp hh
    cases e1
    obtain ⟨h1, h2⟩ := sy_ld_i1 H hv
    refine ⟨(v :: z, h), ?_, ⟨v, z, rfl, sy_pl_ok h2, hz⟩, H⟩
    show (mi_ld_i1 _ _ h).map _ = _
    rw [h1]
    rfl
  · obtain ⟨v, w, rfl, hv, u, z, rfl, hu, y, q, rfl, hy, hq⟩ := hs
    cases hv; cases hu; cases hy
    obtain ⟨G, hG, e1⟩ := Option.map_eq_some_iff.mp hh
    cases e1
    obtain ⟨g, h1, h2⟩ := sy_as_i4 H hG
    refine ⟨(q, g), ?_, hq, h2⟩
    show (mi_as_i4 _ _ _ h).map _ = _
    rw [h1]
    rfl
  · obtain ⟨v, w, rfl, hv, u, z, rfl, hu, y, q, rfl, hy, hq⟩ := hs
    obtain ⟨x, rfl, -⟩ := hv
    cases hu; cases hy
    obtain ⟨G, hG, e1⟩ := Option.map_eq_some_iff.mp hh
    cases e1
    obtain ⟨g, h1, h2⟩ := sy_asf (v := x) H hG
    refine ⟨(q, g), ?_, hq, h2⟩
    show (mi_as_i4 _ _ _ h).map _ = _
    rw [h1]
    rfl
  · obtain ⟨v, w, rfl, hv, u, z, rfl, hu, y, q, rfl, hy, hq⟩ := hs
    cases hv; cases hu; cases hy
    obtain ⟨G, hG, e1⟩ := Option.map_eq_some_iff.mp hh
    cases e1
    obtain ⟨g, h1, h2⟩ := sy_as_i8 H hG
    refine ⟨(q, g), ?_, hq, h2⟩
    show (mi_as_i8 _ _ _ h).map _ = _
    rw [h1]
    rfl
  · obtain ⟨v, w, rfl, hv, u, z, rfl, hu, y, q, rfl, hy, hq⟩ := hs
    cases hv; cases hu; cases hy
    obtain ⟨G, hG, e1⟩ := Option.map_eq_some_iff.mp hh
    cases e1
    obtain ⟨g, h1, h2⟩ := sy_as_i1 H hG
    refine ⟨(q, g), ?_, hq, h2⟩
    show (mi_as_i1 _ _ _ h).map _ = _
    rw [h1]
    rfl
  · obtain ⟨v, w, rfl, hv, hw⟩ := hs
    cases hv
    split at hh
    · next ha =>
      subst ha
      split at hh
      · next hc =>
        cases hh
        refine ⟨(.int (Int32.ofNat L) :: w, h), rfl, ⟨_, w, rfl, ?_, hw⟩, H⟩
        show Value.int _ = Value.int _
        rw [hV.2.1 hc]
      · cases hh
    · next ha =>
      obtain ⟨v, hv, e1⟩ := Option.map_eq_some_iff.mp hh
      cases e1
      obtain ⟨h1, h2⟩ := sy_alen (L := L) H hv
      refine ⟨(v :: w, h), ?_, ⟨v, w, rfl, sy_pl_ok h2, hw⟩, H⟩
      show (mi_alen L _ h).map _ = _
      rw [h1]
      rfl
  · obtain ⟨v, w, rfl, hv, hw⟩ := hs
    cases hv
    split at hh
    · cases hh
    · next hc =>
      obtain ⟨k, hk, e1⟩ := Option.map_eq_some_iff.mp hh
      cases e1
      obtain ⟨y, hy, he⟩ := sy_zero hk
      refine ⟨(.ref h.1 :: w, mi_push h _ (.inl y)), ?_, ⟨_, w, rfl, ?_, hw⟩, sy_push H he⟩
      · unfold mi_heap
        simp only [if_neg hc, hy, Option.map_some]
      · exact congrArg Value.ref H.1
  · split at hh
    · next ci hci =>
      split at hh
      · cases hh
      · next hc =>
        cases hh
        refine ⟨(.ref h.1 :: t, mi_push h (mi_nf P ci) (.inr (ci, mi_dfs (mi_ft P) ci (mi_nf P ci)))), ?_, ⟨_, t, rfl, ?_, hs⟩, sy_push H ?_⟩
        · show (mi_nw P j _).map _ = _
          rw [hci]
          rfl
        · exact congrArg Value.ref H.1
        · refine sy_objs ?_
          show Nat.blt ci 1000000 = true
          exact Nat.blt_eq.mpr (by omega)
    · cases hh
  · split at hh
    · next y hy =>
      cases hh
      refine ⟨(.int y :: t, h), ?_, ⟨_, t, rfl, rfl, hs⟩, H⟩
      unfold mi_heap
      simp only [hy]
    · next y hy =>
      cases hh
      refine ⟨(.retAddr y :: t, h), ?_, ⟨_, t, rfl, rfl, hs⟩, H⟩
      unfold mi_heap
      simp only [hy]
    · cases hh
  · split at hh
    · next y hy =>
      cases hh
      refine ⟨(.int y :: t, h), ?_, ⟨_, t, rfl, rfl, hs⟩, H⟩
      unfold mi_heap
      simp only [hy]
    · cases hh
  · split at hh
    · next y hy =>
      cases hh
      refine ⟨(.long y :: t, h), ?_, ⟨_, t, rfl, rfl, hs⟩, H⟩
      unfold mi_heap
      simp only [hy]
    · cases hh
  · cases hh
