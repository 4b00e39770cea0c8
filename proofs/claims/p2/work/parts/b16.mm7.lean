/-! The reference's versions: found, added. -/
section Mm7
variable {B h : Nat} {pg : pg_T} {S0 S S' S1 S2 S3 : wd_S} {k n y z d r c p i f m : Nat} {x v : Int32} {kn : Nat → Int32} {vs : List mk_V}
theorem mv_57 {kk : Int32 → Int32 → Int32 → Int32 → Int32 → wd_S → Option (Int32 × wd_S)} {l1 l3 l4 : Int32} (hm : m < 16) (hp : p < 160) : ∀ (r i F : Nat) (a : Bool), i + r = 4 → ∃ e : Bool, fn_Mo_versionOf_57 kk (F + 1 + r) l1 (Int32.ofNat m) l3 l4 (Int32.ofNat p) (if a = true then 1 else 0) (Int32.ofNat i) S = (if e = true then some (Int32.ofNat p, S) else kk l1 (Int32.ofNat m) l3 l4 (Int32.ofNat (p + 1)) S) ∧ (e = true ↔ (a = true ∧ ∀ j, j < 4 → i ≤ j → mk_bt m j = true → S.1 161 (4 * p + j) = S.1 171 j)) := by
  intro r
  induction r with
  | zero =>
    intro i F a hi
    have hi : i = 4 := hi
    subst hi
    rw [Nat.add_zero, fn_Mo_versionOf_57, if_neg (show ¬Int32.ofNat 4 < 4 by decide), im_s]
    cases a with
    | false => exact ⟨false, by rw [if_neg (show ¬false = true by decide), if_pos rfl, if_neg (show ¬false = true by decide)], ⟨fun q => (by cases q), fun q => q.1⟩⟩
    | true => exact ⟨true, by rw [if_pos (rfl : true = true), if_neg (show ¬(1 : Int32) = 0 by decide), if_pos (rfl : true = true)], ⟨fun _ => ⟨rfl, fun j h1 h2 => by omega⟩, fun _ => rfl⟩⟩
  | succ r ih =>
    intro i F a hi
    have hi4 : i < 4 := by omega
    show ∃ e : Bool, fn_Mo_versionOf_57 kk (F + 1 + r + 1) l1 (Int32.ofNat m) l3 l4 (Int32.ofNat p) (if a = true then 1 else 0) (Int32.ofNat i) S = _ ∧ _
    have ea : (4 : Int32) * Int32.ofNat p + Int32.ofNat i = Int32.ofNat (4 * p + i) := by rw [show (4 : Int32) = Int32.ofNat 4 from rfl, im_ma]
    rw [fn_Mo_versionOf_57, if_pos (show Int32.ofNat i < 4 from (im_lt (m := i) (n := 4) (by omega) (by omega)).mpr hi4)]
    unfold fn_Mo_versionOf_103 fn_Mo_versionOf_99 fn_Mo_versionOf_104
    rw [im_s, mk_i_bt m hm i hi4, ea, if_neg (ms_in (show 4 * p + i < 640 by omega) (by decide)), if_neg (ms_in hi4 (by decide)), im_t (show 4 * p + i < 2147483648 by omega), im_t (show i < 2147483648 by omega)]
    obtain ⟨e0, f0, q0⟩ := ih (i + 1) F false (by omega)
    rw [if_neg (show ¬false = true by decide)] at f0
    obtain ⟨e1, f1, q1⟩ := ih (i + 1) F true (by omega)
    rw [if_pos (rfl : true = true)] at f1
    rw [f0, f1]
    have ef : e0 = false := Bool.eq_false_iff.mpr (fun q => by cases (q0.mp q).1)
    rw [ef, if_neg (show ¬false = true by decide)]
    cases a with
    | false => exact ⟨false, by rw [if_neg (show ¬false = true by decide), if_pos rfl, if_neg (show ¬false = true by decide)], ⟨fun q => (by cases q), fun q => q.1⟩⟩
    | true =>
      rw [if_pos (rfl : true = true), if_neg (show ¬(1 : Int32) = 0 by decide)]
      cases hb : mk_bt m i with
      | false =>
        rw [if_neg (show ¬false = true by decide), if_pos rfl]
        refine ⟨e1, rfl, q1.trans ⟨fun q => ⟨rfl, fun j h1 h2 h3 => ?_⟩, fun q => ⟨rfl, fun j h1 h2 h3 => q.2 j h1 (by omega) h3⟩⟩⟩
        by_cases ej : j = i
        · subst ej; rw [hb] at h3; cases h3
        · exact q.2 j h1 (by omega) h3
      | true =>
        rw [if_pos (rfl : true = true), if_neg (show ¬(1 : Int32) = 0 by decide)]
        by_cases hq : S.1 161 (4 * p + i) = S.1 171 i
        · rw [if_pos hq]
          refine ⟨e1, rfl, q1.trans ⟨fun q => ⟨rfl, fun j h1 h2 h3 => ?_⟩, fun q => ⟨rfl, fun j h1 h2 h3 => q.2 j h1 (by omega) h3⟩⟩⟩
          by_cases ej : j = i
          · subst ej; exact hq
          · exact q.2 j h1 (by omega) h3
        · rw [if_neg hq]
          exact ⟨false, by rw [if_neg (show ¬false = true by decide)], ⟨fun q => (by cases q), fun q => absurd (q.2 i hi4 (Nat.le_refl _) hb) hq⟩⟩
/-- behind the last version -/
noncomputable def mv_tl (l1 l2 l3 l4 : Int32) (S : wd_S) : Option (Int32 × wd_S) := if l3 = 0 then (if (S.1 135 65) < (30 : Int32) then fn_Mo_versionOf_141 l1 l2 l4 S else some ((-1 : Int32), S)) else fn_Mo_versionOf_141 l1 l2 l4 S
theorem mv_13 (hB : B ≤ 1) (hh : h ≤ 1) (hm : m < 16) (hf : f < 48) (hv : mm_v B h pg vs S) (hpl : pg.length ≤ 48) (hpn : ∀ f, pg_n pg f ≤ 4) (hkn : ∀ i, i < 4 → mk_bt m i = true → S.1 171 i = kn i) : ∀ (l : List mk_V) (k F : Nat), vs.drop k = l → k ≤ vs.length → fn_Mo_versionOf_13 (F + 1 + l.length) (Int32.ofNat (48 * h + f)) (Int32.ofNat m) x (Int32.ofNat (80 * B)) (Int32.ofNat (80 * B + k)) S = match mk_fd f m kn l k with
    | some j => some (Int32.ofNat (80 * B + j), S)
    | none => mv_tl (Int32.ofNat (48 * h + f)) (Int32.ofNat m) x (Int32.ofNat (80 * B)) S := by
  have hl := mk_ok_len hv.2.1
  have ew : Int32.ofNat (80 * B) + Int32.ofNat vs.length = Int32.ofNat (80 * B + vs.length) := (Int32.ofNat_add _ _).symm
  intro l
  induction l with
  | nil =>
    intro k F hd hk
    have hk2 : k = vs.length := Nat.le_antisymm hk (List.drop_eq_nil_iff.mp hd)
    rw [show F + 1 + ([] : List mk_V).length = F + 1 from rfl, fn_Mo_versionOf_13, hv.1, ew, hk2, if_neg Int32.lt_irrefl]
    show _ = mv_tl _ _ _ _ _
    unfold mv_tl
    rw [hv.1]
  | cons q l ih =>
    intro k F hd hk
    have hlt : k < vs.length := by
      rcases Nat.lt_or_ge k vs.length with z | z
      · exact z
      · rw [List.drop_eq_nil_of_le z] at hd; cases hd
    rw [List.drop_eq_getElem_cons hlt] at hd
    injection hd with hq hd2
    obtain ⟨a1, a2, a4⟩ := hv.2.2 k hlt
    rw [hq] at a1 a2 a4
    have hmem : q ∈ vs := by rw [← hq]; exact List.getElem_mem hlt
    obtain ⟨c1, c2⟩ := hv.2.1.1 q hmem
    have hp16 : 2 ^ pg_n pg q.1 ≤ 2 ^ 4 := Nat.pow_le_pow_right (by decide) (hpn _)
    have hno : mk_is f m kn q = false → fn_Mo_versionOf_13 (F + 1 + l.length) (Int32.ofNat (48 * h + f)) (Int32.ofNat m) x (Int32.ofNat (80 * B)) (Int32.ofNat (80 * B + k + 1)) S = match mk_fd f m kn (q :: l) k with
        | some j => some (Int32.ofNat (80 * B + j), S)
        | none => mv_tl (Int32.ofNat (48 * h + f)) (Int32.ofNat m) x (Int32.ofNat (80 * B)) S := fun hn => by
      rw [show 80 * B + k + 1 = 80 * B + (k + 1) by omega, ih (k + 1) F hd2 hlt, mk_fd, if_neg (by rw [hn]; decide)]
    show fn_Mo_versionOf_13 (F + 1 + l.length + 1) (Int32.ofNat (48 * h + f)) (Int32.ofNat m) x (Int32.ofNat (80 * B)) (Int32.ofNat (80 * B + k)) S = _
    rw [fn_Mo_versionOf_13, hv.1, ew, if_pos ((im_lt (by omega) (by omega)).mpr (by omega)), if_neg (ms_in (show 80 * B + k < 160 by omega) (by decide)), if_neg (ms_in (show 80 * B + k < 160 by omega) (by decide)), im_t (show 80 * B + k < 2147483648 by omega), a1, a2]
    unfold fn_Mo_versionOf_51 fn_Mo_versionOf_52
    obtain ⟨e0, f0, q0⟩ := mv_57 (S := S) (kk := fn_Mo_versionOf_13 (F + 1 + l.length)) (l1 := Int32.ofNat (48 * h + f)) (l3 := x) (l4 := Int32.ofNat (80 * B)) hm (show 80 * B + k < 160 by omega) 4 0 999995 false rfl
    have ef : e0 = false := Bool.eq_false_iff.mpr (fun q => by cases (q0.mp q).1)
    rw [ef, if_neg (show ¬false = true by decide), if_neg (show ¬false = true by decide)] at f0
    have f0 : fn_Mo_versionOf_57 (fn_Mo_versionOf_13 (F + 1 + l.length)) wd_F (Int32.ofNat (48 * h + f)) (Int32.ofNat m) x (Int32.ofNat (80 * B)) (Int32.ofNat (80 * B + k)) 0 0 S = _ := f0
    obtain ⟨e1, f1, q1⟩ := mv_57 (S := S) (kk := fn_Mo_versionOf_13 (F + 1 + l.length)) (l1 := Int32.ofNat (48 * h + f)) (l3 := x) (l4 := Int32.ofNat (80 * B)) hm (show 80 * B + k < 160 by omega) 4 0 999995 true rfl
    rw [if_pos (rfl : true = true)] at f1
    have f1 : fn_Mo_versionOf_57 (fn_Mo_versionOf_13 (F + 1 + l.length)) wd_F (Int32.ofNat (48 * h + f)) (Int32.ofNat m) x (Int32.ofNat (80 * B)) (Int32.ofNat (80 * B + k)) 1 0 S = _ := f1
    rw [f0, f1]
    by_cases e2 : q.1 = f
    · rw [if_pos (show Int32.ofNat (48 * h + q.1) = Int32.ofNat (48 * h + f) by rw [e2])]
      by_cases e3 : q.2.1 = m
      · rw [if_pos (show Int32.ofNat q.2.1 = Int32.ofNat m by rw [e3])]
        cases he : e1 with
        | true =>
          rw [if_pos (rfl : true = true), mk_fd, if_pos (mk_is_iff.mpr ⟨e2, e3, fun i h1 h2 => by rw [← a4 i h1, (q1.mp he).2 i h1 (Nat.zero_le _) h2, hkn i h1 h2]⟩)]
        | false =>
          rw [if_neg (show ¬false = true by decide)]
          refine hno (mk_is_no (fun w => ?_))
          rw [q1.mpr ⟨rfl, fun j h1 _ h2 => by rw [a4 j h1, w.2.2 j h1 h2, hkn j h1 h2]⟩] at he
          cases he
      · rw [if_neg (show ¬Int32.ofNat q.2.1 = Int32.ofNat m from fun z => e3 ((im_eq (by omega) (by omega)).mp z))]
        exact hno (mk_is_no (fun w => e3 w.2.1))
    · rw [if_neg (show ¬Int32.ofNat (48 * h + q.1) = Int32.ofNat (48 * h + f) from fun z => e2 (by have := (im_eq (by omega) (by omega)).mp z; omega))]
      exact hno (mk_is_no (fun w => e2 w.1))
theorem mv_179 (hm : m < 16) (hp : p < 160) (hkn : ∀ i, i < 4 → mk_bt m i = true → S.1 171 i = kn i) : ∀ (r i F : Nat) (S1 : wd_S), i + r = 4 → of_f (fun a j => a = 161 ∧ 4 * p ≤ j ∧ j < 4 * p + 4) S S1 → (∀ j, j < i → S1.1 161 (4 * p + j) = if mk_bt m j = true then kn j else 0) → ∃ S', fn_Mo_versionOf_179 (F + 1 + r) (Int32.ofNat m) (Int32.ofNat p) (Int32.ofNat i) S1 = some (Int32.ofNat p, S') ∧ of_f (fun a j => a = 161 ∧ 4 * p ≤ j ∧ j < 4 * p + 4) S S' ∧ ∀ j, j < 4 → S'.1 161 (4 * p + j) = if mk_bt m j = true then kn j else 0 := by
  intro r
  induction r with
  | zero =>
    intro i F S1 hi ho hj
    have hi : i = 4 := hi
    subst hi
    refine ⟨S1, ?_, ho, hj⟩
    rw [Nat.add_zero, fn_Mo_versionOf_179, if_neg (show ¬Int32.ofNat 4 < 4 by decide)]
  | succ r ih =>
    intro i F S1 hi ho hj
    have hi4 : i < 4 := by omega
    have ea : (4 : Int32) * Int32.ofNat p + Int32.ofNat i = Int32.ofNat (4 * p + i) := by rw [show (4 : Int32) = Int32.ofNat 4 from rfl, im_ma]
    have fin : ∀ x, (x = if mk_bt m i = true then kn i else 0) → ∃ S', fn_Mo_versionOf_217 (fn_Mo_versionOf_179 (F + 1 + r)) (Int32.ofNat m) (Int32.ofNat p) (Int32.ofNat i) (Int32.ofNat (4 * p + i)) x S1 = some (Int32.ofNat p, S') ∧ of_f (fun a j => a = 161 ∧ 4 * p ≤ j ∧ j < 4 * p + 4) S S' ∧ ∀ j, j < 4 → S'.1 161 (4 * p + j) = if mk_bt m j = true then kn j else 0 := fun x hx => by
      unfold fn_Mo_versionOf_217
      simp only [wd_b]
      rw [if_neg (ms_in (show 4 * p + i < 640 by omega) (by decide)), im_t (show 4 * p + i < 2147483648 by omega), im_s]
      refine ih (i + 1) F _ (by omega) (of_i (by omega) ho) (fun j h1 => ?_)
      by_cases e : j = i
      · rw [e, fr_eq, hx]
      · rw [fr_ne (by omega)]; exact hj j (by omega)
    show ∃ S', fn_Mo_versionOf_179 (F + 1 + r + 1) (Int32.ofNat m) (Int32.ofNat p) (Int32.ofNat i) S1 = _ ∧ _
    rw [fn_Mo_versionOf_179, if_pos (show Int32.ofNat i < 4 from (im_lt (m := i) (n := 4) (by omega) (by omega)).mpr hi4), mk_i_bt m hm i hi4, ea, if_neg (ms_in hi4 (by decide)), im_t (show i < 2147483648 by omega)]
    cases hb : mk_bt m i with
    | false =>
      rw [if_neg (show ¬false = true by decide), if_neg (show ¬(0 : Int32) = 1 by decide)]
      exact fin 0 (by rw [hb, if_neg (show ¬false = true by decide)])
    | true =>
      rw [if_pos (rfl : true = true), if_pos rfl, ho.1 171 i (by omega)]
      exact fin _ (by rw [hb, if_pos rfl, hkn i hi4 hb])
theorem mv_add (hB : B ≤ 1) (hv : mm_v B h pg vs S) (hpl : pg.length ≤ 48) (hpn : ∀ f, pg_n pg f ≤ 4) (hok : mk_ok pg (vs ++ [mk_new f m kn])) (hkn : ∀ i, i < 4 → mk_bt m i = true → S.1 171 i = kn i) : ∃ S', fn_Mo_versionOf_141 (Int32.ofNat (48 * h + f)) (Int32.ofNat m) (Int32.ofNat (80 * B)) S = some (Int32.ofNat (80 * B + vs.length), S') ∧ of_f (fun a b => (a = 135 ∧ b = 65) ∨ ((a = 159 ∨ a = 160) ∧ 80 * B ≤ b ∧ b < 80 * B + 80) ∨ (a = 161 ∧ 320 * B ≤ b ∧ b < 320 * B + 320)) S S' ∧ mm_v B h pg (vs ++ [mk_new f m kn]) S' := by
  have hl := mk_ok_len hok
  rw [List.length_append] at hl
  have hl : vs.length + 1 ≤ 30 + pg.length := hl
  obtain ⟨hf, hm⟩ := hok.1 (mk_new f m kn) (List.mem_append_right _ List.mem_cons_self)
  have hm : m < 2 ^ pg_n pg f := hm
  have hp16 : 2 ^ pg_n pg f ≤ 2 ^ 4 := Nat.pow_le_pow_right (by decide) (hpn _)
  have hm16 : m < 16 := by omega
  have ew : Int32.ofNat (80 * B) + Int32.ofNat vs.length = Int32.ofNat (80 * B + vs.length) := (Int32.ofNat_add _ _).symm
  unfold fn_Mo_versionOf_141
  simp only [wd_b]
  rw [hv.1, ew, im_s, if_neg (ms_in (show 80 * B + vs.length < 160 by omega) (by decide)), if_neg (ms_in (show 80 * B + vs.length < 160 by omega) (by decide)), im_t (show 80 * B + vs.length < 2147483648 by omega)]
  generalize hS3 : wd_i (wd_i (wd_i S 135 65 (Int32.ofNat (vs.length + 1))) 159 (80 * B + vs.length) (Int32.ofNat (48 * h + f))) 160 (80 * B + vs.length) (Int32.ofNat m) = S3
  have o3 : of_f (fun a j => (a = 135 ∧ j = 65) ∨ ((a = 159 ∨ a = 160) ∧ j = 80 * B + vs.length)) S S3 := by
    rw [← hS3]
    exact of_i (by omega) (of_i (by omega) (of_i (by omega) of_refl))
  have v1 : S3.1 135 65 = Int32.ofNat (vs.length + 1) := by rw [← hS3, fr_ne (by omega), fr_ne (by omega), fr_eq]
  have v20 : S3.1 159 (80 * B + vs.length) = Int32.ofNat (48 * h + f) := by rw [← hS3, fr_ne (by omega), fr_eq]
  have v22 : S3.1 160 (80 * B + vs.length) = Int32.ofNat m := by rw [← hS3, fr_eq]
  clear hS3
  obtain ⟨S4, f4, o4, c4⟩ := mv_179 (S := S3) (kn := kn) hm16 (show 80 * B + vs.length < 160 by omega) (fun i h1 h2 => by rw [o3.1 171 i (by omega)]; exact hkn i h1 h2) 4 0 999995 S3 rfl of_refl (fun j hj => absurd hj (Nat.not_lt_zero _))
  refine ⟨S4, f4, of_trans (of_mono (fun a k q => by omega) o3) (of_mono (fun a k q => by omega) o4), ?_, hok, fun j hj => ?_⟩
  · rw [o4.1 135 65 (by omega), v1, List.length_append]
    rfl
  · rw [List.length_append] at hj
    have hj : j < vs.length + 1 := hj
    by_cases e : j = vs.length
    · subst e
      rw [List.getElem_append_right (Nat.le_refl _)]
      simp only [Nat.sub_self, List.getElem_cons_zero]
      exact ⟨by rw [o4.1 159 _ (by omega)]; exact v20, by rw [o4.1 160 _ (by omega)]; exact v22, c4⟩
    · have hj2 : j < vs.length := by omega
      rw [List.getElem_append_left hj2]
      obtain ⟨k1, k2, k4⟩ := hv.2.2 j hj2
      refine ⟨?_, ?_, fun i hi => ?_⟩
      · rw [o4.1 159 _ (by omega), o3.1 159 _ (by omega)]; exact k1
      · rw [o4.1 160 _ (by omega), o3.1 160 _ (by omega)]; exact k2
      · rw [o4.1 161 _ (by omega), o3.1 161 _ (by omega)]; exact k4 i hi
theorem mv_of (hB : B ≤ 1) (hh : h ≤ 1) (h64 : S.1 135 64 = Int32.ofNat B) (hm : m < 16) (hf : f < 48) (hv : mm_v B h pg vs S) (hpl : pg.length ≤ 48) (hpn : ∀ f, pg_n pg f ≤ 4) (hkn : ∀ i, i < 4 → mk_bt m i = true → S.1 171 i = kn i) : fn_Mo_versionOf (Int32.ofNat (48 * h + f)) (Int32.ofNat m) x S = match mk_fd f m kn vs 0 with
    | some j => some (Int32.ofNat (80 * B + j), S)
    | none => mv_tl (Int32.ofNat (48 * h + f)) (Int32.ofNat m) x (Int32.ofNat (80 * B)) S := by
  have hl := mk_ok_len hv.2.1
  have e8 : (80 : Int32) * Int32.ofNat B = Int32.ofNat (80 * B) := by rw [show (80 : Int32) = Int32.ofNat 80 from rfl, ← Int32.ofNat_mul]
  unfold fn_Mo_versionOf
  rw [h64, e8, show wd_F = (999999 - vs.length) + 1 + vs.length by rw [show wd_F = 1000000 from rfl]; omega]
  exact mv_13 hB hh hm hf hv hpl hpn hkn vs 0 _ rfl (Nat.zero_le _)
end Mm7
