/-! The class's versions: found, added. -/
def cv_W (v a k : Nat) : Prop := (a = v + 1 ∧ k = 3) ∨ a = v + 18 ∨ a = v + 20 ∨ a = v + 22 ∨ a = v + 24
def cv_T (v : Nat) : Prop := (v = 54 ∨ v = 79) ∧ (tp_t (v + 18)).2 = 78 ∧ (tp_t (v + 20)).2 = 78 ∧ (tp_t (v + 22)).2 = 78 ∧ (tp_t (v + 24)).2 = 312
section Cv
variable {v p k m f : Nat} {pg : pg_T} {S S' S1 : wd_S} {kn : Nat → Int32} {vs : List mk_V}
theorem cv_in (hm : m < 16) {i : Nat} (hi : i < 4) : fn_Versions_isIn (Int32.ofNat m) (Int32.ofNat i) S = some (if mk_bt m i = true then 1 else 0, S) := by
  unfold fn_Versions_isIn fn_Versions_isIn_14
  rw [mk_i_bt m hm i hi]
  cases mk_bt m i <;> simp [fo_b0, fo_b1]
theorem cv_ag3 (hT : cv_T v) (hm : m < 16) (hk : k < 78) (hp : (tp_t (p + 1)).2 = 4) : ∀ (r i F : Nat), i + r = 4 → ∃ e : Bool, fn_Versions_agrees_3 (F + 1 + r) v (Int32.ofNat k) (Int32.ofNat m) p (Int32.ofNat i) S = some (if e = true then 1 else 0, S) ∧ (e = true ↔ ∀ j, j < 4 → i ≤ j → mk_bt m j = true → S.1 (v + 24) (4 * k + j) = S.1 (p + 1) j) := by
  intro r
  induction r with
  | zero =>
    intro i F hi
    have hi : i = 4 := hi
    subst hi
    refine ⟨true, ?_, ⟨fun _ j h1 h2 => by omega, fun _ => rfl⟩⟩
    rw [Nat.add_zero, fn_Versions_agrees_3, if_neg (show ¬Int32.ofNat 4 < 4 by decide)]
    rfl
  | succ r ih =>
    intro i F hi
    have hi4 : i < 4 := by omega
    obtain ⟨e, he, hiff⟩ := ih (i + 1) F (by omega)
    show ∃ e : Bool, fn_Versions_agrees_3 (F + 1 + r + 1) v (Int32.ofNat k) (Int32.ofNat m) p (Int32.ofNat i) S = _ ∧ _
    rw [fn_Versions_agrees_3, if_pos (show Int32.ofNat i < 4 from (im_lt (m := i) (n := 4) (by omega) (by omega)).mpr hi4), cv_in hm hi4, wd_c_s]
    unfold fn_Versions_agrees_42
    rw [im_s, he]
    cases hb : mk_bt m i with
    | false =>
      refine ⟨e, by simp, hiff.trans ⟨fun h j h1 h2 h3 => h j h1 ?_ h3, fun h j h1 h2 h3 => h j h1 (by omega) h3⟩⟩
      rcases Nat.lt_or_ge i j with z | z
      · exact z
      · have : j = i := by omega
        subst this
        rw [hb] at h3
        cases h3
    | true =>
      rw [if_pos (rfl : true = true), if_neg (show ¬(1 : Int32) = 0 by decide), ro_at_ok, wd_c_s, ro_at_ok, wd_c_s, ro_an hp hi4, show Int32.ofNat k * 4 + Int32.ofNat i = Int32.ofNat (4 * k + i) by rw [show (4 : Int32) = Int32.ofNat 4 from rfl, im_ma, Nat.mul_comm], ro_an (r := v + 23) hT.2.2.2.2 (show 4 * k + i < 312 by omega)]
      by_cases hq : S.1 (v + 23 + 1) (4 * k + i) = S.1 (p + 1) i
      · rw [if_pos hq]
        refine ⟨e, he, hiff.trans ⟨fun h j h1 h2 h3 => ?_, fun h j h1 h2 h3 => h j h1 (by omega) h3⟩⟩
        by_cases ej : j = i
        · subst ej; exact hq
        · exact h j h1 (by omega) h3
      · rw [if_neg hq]
        exact ⟨false, rfl, ⟨fun h => (by cases h), fun h => absurd (h i hi4 (Nat.le_refl _) hb) hq⟩⟩
theorem cv_ag (hT : cv_T v) (hm : m < 16) (hk : k < 78) (hp : (tp_t (p + 1)).2 = 4) : ∃ e : Bool, fn_Versions_agrees v (Int32.ofNat k) (Int32.ofNat m) p S = some (if e = true then 1 else 0, S) ∧ (e = true ↔ ∀ j, j < 4 → mk_bt m j = true → S.1 (v + 24) (4 * k + j) = S.1 (p + 1) j) := by
  obtain ⟨e, he, hi⟩ := cv_ag3 (S := S) hT hm hk hp 4 0 999995 rfl
  exact ⟨e, he, hi.trans ⟨fun h j h1 h2 => h j h1 (Nat.zero_le _) h2, fun h j h1 _ h2 => h j h1 h2⟩⟩
theorem cv_find3 (hT : cv_T v) (hm : m < 16) (hf : f < 2147483648) (hv : cm_v v pg vs S) (hpl : pg.length ≤ 48) (hpn : ∀ f, pg_n pg f ≤ 4) (hp : (tp_t (p + 1)).2 = 4) (hkn : ∀ i, i < 4 → mk_bt m i = true → S.1 (p + 1) i = kn i) : ∀ (l : List mk_V) (k F : Nat), vs.drop k = l → k ≤ vs.length → fn_Versions_find_3 (F + 1 + l.length) v (Int32.ofNat f) (Int32.ofNat m) p (Int32.ofNat k) S = some (match mk_fd f m kn l k with
    | some j => Int32.ofNat j
    | none => -1, S) := by
  have hl := mk_ok_len hv.2.1
  intro l
  induction l with
  | nil =>
    intro k F hd hk
    have hk2 : k = vs.length := Nat.le_antisymm hk (List.drop_eq_nil_iff.mp hd)
    rw [show F + 1 + ([] : List mk_V).length = F + 1 from rfl, fn_Versions_find_3]
    unfold fn_Versions_count fn_Bodies_count
    rw [wd_c_s, wd_c_s, hv.1, if_neg (by rw [hk2]; exact Int32.lt_irrefl)]
    rfl
  | cons q l ih =>
    intro k F hd hk
    have hlt : k < vs.length := by
      rcases Nat.lt_or_ge k vs.length with z | z
      · exact z
      · rw [List.drop_eq_nil_of_le z] at hd; cases hd
    rw [List.drop_eq_getElem_cons hlt] at hd
    injection hd with hq hd2
    obtain ⟨a1, a2, -, a4⟩ := hv.2.2 k hlt
    rw [hq] at a1 a2 a4
    have hmem : q ∈ vs := by rw [← hq]; exact List.getElem_mem hlt
    obtain ⟨c1, c2⟩ := hv.2.1.1 q hmem
    have hp16 : 2 ^ pg_n pg q.1 ≤ 2 ^ 4 := Nat.pow_le_pow_right (by decide) (hpn _)
    have hgo : mk_is f m kn q = false → fn_Versions_find_46 (fn_Versions_find_3 (F + 1 + l.length)) v (Int32.ofNat f) (Int32.ofNat m) p (Int32.ofNat k) S = some (match mk_fd f m kn (q :: l) k with
        | some j => Int32.ofNat j
        | none => -1, S) := fun hn => by
      unfold fn_Versions_find_46
      rw [im_s, ih (k + 1) F hd2 hlt, mk_fd, if_neg (by rw [hn]; decide)]
    show fn_Versions_find_3 (F + 1 + l.length + 1) v (Int32.ofNat f) (Int32.ofNat m) p (Int32.ofNat k) S = _
    rw [fn_Versions_find_3]
    unfold fn_Versions_count fn_Bodies_count fn_Versions_functionOf fn_Versions_mask
    rw [wd_c_s, wd_c_s, hv.1, if_pos ((im_lt (by omega) (by omega)).mpr hlt), ro_at_ok, wd_c_s, wd_c_s, ro_an (r := v + 19) hT.2.2.1 (show k < 78 by omega), a1]
    by_cases e1 : q.1 = f
    · rw [if_pos (by rw [e1]), ro_at_ok, wd_c_s, wd_c_s, ro_an (r := v + 21) hT.2.2.2.1 (show k < 78 by omega), a2]
      by_cases e2 : q.2.1 = m
      · obtain ⟨ee, he, hi⟩ := cv_ag (S := S) hT hm (show k < 78 by omega) hp
        rw [if_pos (by rw [e2]), he, wd_c_s]
        by_cases e3 : ∀ j, j < 4 → mk_bt m j = true → S.1 (v + 24) (4 * k + j) = S.1 (p + 1) j
        · rw [hi.mpr e3, if_pos (rfl : true = true), if_neg (show ¬(1 : Int32) = 0 by decide), mk_fd, if_pos (mk_is_iff.mpr ⟨e1, e2, fun i h1 h2 => by rw [← a4 i h1, e3 i h1 h2, hkn i h1 h2]⟩)]
        · have ef : ee = false := Bool.eq_false_iff.mpr (fun z => e3 (hi.mp z))
          rw [ef, if_neg (show ¬false = true by decide), if_pos rfl]
          exact hgo (mk_is_no (fun q => e3 (fun j h1 h2 => by rw [a4 j h1, q.2.2 j h1 h2, hkn j h1 h2])))
      · rw [if_neg (fun z => e2 ((im_eq (by omega) (by omega)).mp z))]
        exact hgo (mk_is_no (fun q => e2 q.2.1))
    · rw [if_neg (fun z => e1 ((im_eq (by omega) hf).mp z))]
      exact hgo (mk_is_no (fun q => e1 q.1))
theorem cv_find (hT : cv_T v) (hm : m < 16) (hf : f < 2147483648) (hv : cm_v v pg vs S) (hpl : pg.length ≤ 48) (hpn : ∀ f, pg_n pg f ≤ 4) (hp : (tp_t (p + 1)).2 = 4) (hkn : ∀ i, i < 4 → mk_bt m i = true → S.1 (p + 1) i = kn i) : fn_Versions_find v (Int32.ofNat f) (Int32.ofNat m) p S = some (match mk_fd f m kn vs 0 with
    | some j => Int32.ofNat j
    | none => -1, S) := by
  have hl := mk_ok_len hv.2.1
  unfold fn_Versions_find
  rw [show wd_F = (999999 - vs.length) + 1 + vs.length by rw [show wd_F = 1000000 from rfl]; omega]
  exact cv_find3 hT hm hf hv hpl hpn hp hkn vs 0 _ rfl (Nat.zero_le _)
theorem cv_add39 (hT : cv_T v) (hm : m < 16) (hk : k < 78) (hp : (tp_t (p + 1)).2 = 4) (hp2 : p + 1 ≠ v + 24) (hkn : ∀ i, i < 4 → mk_bt m i = true → S.1 (p + 1) i = kn i) : ∀ (r i F : Nat) (S1 : wd_S), i + r = 4 → of_f (fun a j => a = v + 24 ∧ 4 * k ≤ j ∧ j < 4 * k + 4) S S1 → (∀ j, j < i → S1.1 (v + 24) (4 * k + j) = if mk_bt m j = true then kn j else 0) → ∃ S', fn_Versions_add_39 (F + 1 + r) v (Int32.ofNat m) p (Int32.ofNat k) (Int32.ofNat i) S1 = some (Int32.ofNat k, S') ∧ of_f (fun a j => a = v + 24 ∧ 4 * k ≤ j ∧ j < 4 * k + 4) S S' ∧ ∀ j, j < 4 → S'.1 (v + 24) (4 * k + j) = if mk_bt m j = true then kn j else 0 := by
  intro r
  induction r with
  | zero =>
    intro i F S1 hi ho hj
    have hi : i = 4 := hi
    subst hi
    refine ⟨S1, ?_, ho, hj⟩
    rw [Nat.add_zero, fn_Versions_add_39, if_neg (by decide)]
  | succ r ih =>
    intro i F S1 hi ho hj
    have hi4 : i < 4 := by omega
    have fin : ∀ x, (x = if mk_bt m i = true then kn i else 0) → ∃ S', fn_Versions_add_75 (fn_Versions_add_39 (F + 1 + r)) v (Int32.ofNat m) p (Int32.ofNat k) (Int32.ofNat i) (v + 23) (Int32.ofNat k * 4 + Int32.ofNat i) x S1 = some (Int32.ofNat k, S') ∧ of_f (fun a j => a = v + 24 ∧ 4 * k ≤ j ∧ j < 4 * k + 4) S S' ∧ ∀ j, j < 4 → S'.1 (v + 24) (4 * k + j) = if mk_bt m j = true then kn j else 0 := fun x hx => by
      unfold fn_Versions_add_75
      rw [ro_put_ok, wd_d_s, im_s, show Int32.ofNat k * 4 + Int32.ofNat i = Int32.ofNat (4 * k + i) by rw [show (4 : Int32) = Int32.ofNat 4 from rfl, im_ma, Nat.mul_comm], ro_pn (r := v + 23) hT.2.2.2.2 (show 4 * k + i < 312 by omega)]
      refine ih (i + 1) F _ (by omega) (of_i (by omega) ho) (fun j h1 => ?_)
      by_cases e : j = i
      · rw [e, fr_e (by omega), hx]
      · rw [fr_ne (by omega)]; exact hj j (by omega)
    show ∃ S', fn_Versions_add_39 (F + 1 + r + 1) v (Int32.ofNat m) p (Int32.ofNat k) (Int32.ofNat i) S1 = _ ∧ _
    rw [fn_Versions_add_39, if_pos (show Int32.ofNat i < 4 from (im_lt (m := i) (n := 4) (by omega) (by omega)).mpr hi4), cv_in hm hi4, wd_c_s]
    cases hb : mk_bt m i with
    | false =>
      rw [if_neg (show ¬false = true by decide), if_pos rfl]
      exact fin 0 (by rw [hb, if_neg (show ¬false = true by decide)])
    | true =>
      rw [if_pos (rfl : true = true), if_neg (show ¬(1 : Int32) = 0 by decide), ro_at_ok, wd_c_s, ro_an hp hi4, ho.1 (p + 1) i (by omega)]
      exact fin _ (by rw [hb, if_pos rfl, hkn i hi4 hb])
theorem cv_add (hT : cv_T v) (hv : cm_v v pg vs S) (hpl : pg.length ≤ 48) (hpn : ∀ f, pg_n pg f ≤ 4) (hok : mk_ok pg (vs ++ [mk_new f m kn])) (hp : (tp_t (p + 1)).2 = 4) (hp2 : 103 < p) (hkn : ∀ i, i < 4 → mk_bt m i = true → S.1 (p + 1) i = kn i) : ∃ S', fn_Versions_add v (Int32.ofNat f) (Int32.ofNat m) p (Int32.ofNat (pg_n pg f)) S = some (Int32.ofNat vs.length, S') ∧ of_f (cv_W v) S S' ∧ cm_v v pg (vs ++ [mk_new f m kn]) S' := by
  have hl := mk_ok_len hok
  rw [List.length_append] at hl
  have hl : vs.length + 1 ≤ 30 + pg.length := hl
  obtain ⟨hf, hm⟩ := hok.1 (mk_new f m kn) (List.mem_append_right _ List.mem_cons_self)
  have hm : m < 2 ^ pg_n pg f := hm
  have hp16 : 2 ^ pg_n pg f ≤ 2 ^ 4 := Nat.pow_le_pow_right (by decide) (hpn _)
  have hv' := hT.1
  have hm16 : m < 16 := by omega
  have el := mk_lf_c (pg_n pg f) (by have := hpn f; omega) m hm
  have ed : Int32.ofNat (pg_n pg f) - Int32.ofNat (kn_c m) = Int32.ofNat (mk_lf m (pg_n pg f)) := by
    have e2 : Int32.ofNat (pg_n pg f) = Int32.ofNat (mk_lf m (pg_n pg f)) + Int32.ofNat (kn_c m) := by rw [← Int32.ofNat_add, el]
    rw [e2, Int32.add_sub_cancel]
  unfold fn_Versions_add fn_Bodies_add
  simp only [wd_b]
  rw [kn_bits hm16, wd_c_s, ed, hv.1, ro_put_ok, wd_d_s, ro_pn (r := v + 1 + 16) (show (tp_t (v + 1 + 16 + 1)).2 = 78 by rw [show v + 1 + 16 + 1 = v + 18 by omega]; exact hT.2.1) (show vs.length < 78 by omega), fr_ne (show ¬(v + 1 = v + 1 + 16 + 1 ∧ 3 = vs.length) by omega), hv.1, im_s, wd_c_s, fr_eq, im_p, ro_put_ok, wd_d_s, ro_pn (r := v + 19) hT.2.2.1 (show vs.length < 78 by omega), ro_put_ok, wd_d_s, ro_pn (r := v + 21) hT.2.2.2.1 (show vs.length < 78 by omega)]
  generalize hS3 : wd_i (wd_i (wd_i (wd_i S (v + 1 + 16 + 1) vs.length (Int32.ofNat (mk_lf m (pg_n pg f)))) (v + 1) 3 (Int32.ofNat (vs.length + 1))) (v + 19 + 1) vs.length (Int32.ofNat f)) (v + 21 + 1) vs.length (Int32.ofNat m) = S3
  have o3 : of_f (fun a j => (a = v + 1 ∧ j = 3) ∨ ((a = v + 18 ∨ a = v + 20 ∨ a = v + 22) ∧ j = vs.length)) S S3 := by
    rw [← hS3]
    exact of_i (by omega) (of_i (by omega) (of_i (by omega) (of_i (by omega) of_refl)))
  have v1 : S3.1 (v + 1) 3 = Int32.ofNat (vs.length + 1) := by rw [← hS3, fr_ne (by omega), fr_ne (by omega), fr_eq]
  have v18 : S3.1 (v + 18) vs.length = Int32.ofNat (mk_lf m (pg_n pg f)) := by rw [← hS3, fr_ne (by omega), fr_ne (by omega), fr_ne (by omega), fr_e (by omega)]
  have v20 : S3.1 (v + 20) vs.length = Int32.ofNat f := by rw [← hS3, fr_ne (by omega), fr_e (by omega)]
  have v22 : S3.1 (v + 22) vs.length = Int32.ofNat m := by rw [← hS3, fr_e (by omega)]
  clear hS3
  obtain ⟨S4, f4, o4, c4⟩ := cv_add39 (S := S3) (kn := kn) hT hm16 (show vs.length < 78 by omega) hp (by omega) (fun i h1 h2 => by rw [o3.1 (p + 1) i (by omega)]; exact hkn i h1 h2) 4 0 999995 S3 rfl of_refl (fun j hj => absurd hj (Nat.not_lt_zero _))
  refine ⟨S4, f4, of_trans (of_mono (fun a k q => by unfold cv_W; omega) o3) (of_mono (fun a k q => by unfold cv_W; omega) o4), ?_, hok, fun j hj => ?_⟩
  · rw [o4.1 (v + 1) 3 (by omega), v1, List.length_append]
    rfl
  · rw [List.length_append] at hj
    have hj : j < vs.length + 1 := hj
    by_cases e : j = vs.length
    · subst e
      rw [List.getElem_append_right (Nat.le_refl _)]
      simp only [Nat.sub_self, List.getElem_cons_zero]
      exact ⟨by rw [o4.1 (v + 20) _ (by omega)]; exact v20, by rw [o4.1 (v + 22) _ (by omega)]; exact v22, by rw [o4.1 (v + 18) _ (by omega)]; exact v18, c4⟩
    · have hj2 : j < vs.length := by omega
      rw [List.getElem_append_left hj2]
      obtain ⟨k1, k2, k3, k4⟩ := hv.2.2 j hj2
      refine ⟨?_, ?_, ?_, fun i hi => ?_⟩
      · rw [o4.1 (v + 20) _ (by omega), o3.1 (v + 20) _ (by omega)]; exact k1
      · rw [o4.1 (v + 22) _ (by omega), o3.1 (v + 22) _ (by omega)]; exact k2
      · rw [o4.1 (v + 18) _ (by omega), o3.1 (v + 18) _ (by omega)]; exact k3
      · rw [o4.1 (v + 24) _ (by omega), o3.1 (v + 24) _ (by omega)]; exact k4 i hi
end Cv
