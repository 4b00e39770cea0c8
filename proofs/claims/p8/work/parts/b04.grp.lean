/-! part b04 -/
section
/-! The class's versions: found, added. -/
def cv_W (v a k : Nat) : Prop := (a = v + 1 ∧ k = 3) ∨ a = v + 18 ∨ a = v + 20 ∨ a = v + 22 ∨ a = v + 24
def cv_T (v : Nat) : Prop := (v = 54 ∨ v = 79) ∧ (tp_t (v + 18)).2 = 78 ∧ (tp_t (v + 20)).2 = 78 ∧ (tp_t (v + 22)).2 = 78 ∧ (tp_t (v + 24)).2 = 312
section Cv
variable {v p k m f : Nat} {pg : pg_T} {S S' S1 : wd_S} {kn : Nat → Int32} {vs : List mk_V}
theorem cv_in (hm : m < 16) {i : Nat} (hi : i < 4) : fn_Versions_isIn (Int32.ofNat m) (Int32.ofNat i) S = some (if mk_bt m i = true then 1 else 0, S) := by
  unfold fn_Versions_isIn fn_Versions_isIn_14
  rw [mk_i_bt m hm i hi]
  cases mk_bt m i <;> simp [fo_b0, fo_b1]
theorem cv_ag3 (hT : cv_T v) (hm : m < 16) (hk : k < 78) (hp : (tp_t (p + 1)).2 = 4) : ∀ (r i F : Nat), i + r = 4 → ∃ e : Bool, fn_Versions_agrees_3 (F + 1 + r) v (Int32.ofNat k) (Int32.ofNat m) p (Int32.ofNat i) S = some (if e = true then 1 else 0, S) ∧ (e = true ↔ ∀ j, j < 4 → i ≤ j → mk_bt m j = true → S.1 (v + 24) (4 * k + j) = S.1 (p + 1) j) := by
  intro r
  induction r with
  | zero =>
    intro i F hi
    have hi : i = 4 := hi
    subst hi
    refine ⟨true, ?_, ⟨fun _ j h1 h2 => by omega, fun _ => rfl⟩⟩
    rw [Nat.add_zero, fn_Versions_agrees_3, if_neg (show ¬Int32.ofNat 4 < 4 by decide)]
    rfl
  | succ r ih =>
    intro i F hi
    have hi4 : i < 4 := by omega
    obtain ⟨e, he, hiff⟩ := ih (i + 1) F (by omega)
    show ∃ e : Bool, fn_Versions_agrees_3 (F + 1 + r + 1) v (Int32.ofNat k) (Int32.ofNat m) p (Int32.ofNat i) S = _ ∧ _
    rw [fn_Versions_agrees_3, if_pos (show Int32.ofNat i < 4 from (im_lt (m := i) (n := 4) (by omega) (by omega)).mpr hi4), cv_in hm hi4, wd_c_s]
    unfold fn_Versions_agrees_42
    rw [im_s, he]
    cases hb : mk_bt m i with
    | false =>
      refine ⟨e, by simp, hiff.trans ⟨fun h j h1 h2 h3 => h j h1 ?_ h3, fun h j h1 h2 h3 => h j h1 (by omega) h3⟩⟩
      rcases Nat.lt_or_ge i j with z | z
      · exact z
      · have : j = i := by omega
        subst this
        rw [hb] at h3
        cases h3
    | true =>
      rw [if_pos (rfl : true = true), if_neg (show ¬(1 : Int32) = 0 by decide), ro_at_ok, wd_c_s, ro_at_ok, wd_c_s, ro_an hp hi4, show Int32.ofNat k * 4 + Int32.ofNat i = Int32.ofNat (4 * k + i) by rw [show (4 : Int32) = Int32.ofNat 4 from rfl, im_ma, Nat.mul_comm], ro_an (r := v + 23) hT.2.2.2.2 (show 4 * k + i < 312 by omega)]
      by_cases hq : S.1 (v + 23 + 1) (4 * k + i) = S.1 (p + 1) i
      · rw [if_pos hq]
        refine ⟨e, he, hiff.trans ⟨fun h j h1 h2 h3 => ?_, fun h j h1 h2 h3 => h j h1 (by omega) h3⟩⟩
        by_cases ej : j = i
        · subst ej; exact hq
        · exact h j h1 (by omega) h3
      · rw [if_neg hq]
        exact ⟨false, rfl, ⟨fun h => (by cases h), fun h => absurd (h i hi4 (Nat.le_refl _) hb) hq⟩⟩
theorem cv_ag (hT : cv_T v) (hm : m < 16) (hk : k < 78) (hp : (tp_t (p + 1)).2 = 4) : ∃ e : Bool, fn_Versions_agrees v (Int32.ofNat k) (Int32.ofNat m) p S = some (if e = true then 1 else 0, S) ∧ (e = true ↔ ∀ j, j < 4 → mk_bt m j = true → S.1 (v + 24) (4 * k + j) = S.1 (p + 1) j) := by
  obtain ⟨e, he, hi⟩ := cv_ag3 (S := S) hT hm hk hp 4 0 999995 rfl
  exact ⟨e, he, hi.trans ⟨fun h j h1 h2 => h j h1 (Nat.zero_le _) h2, fun h j h1 _ h2 => h j h1 h2⟩⟩
theorem cv_find3 (hT : cv_T v) (hm : m < 16) (hf : f < 2147483648) (hv : cm_v v pg vs S) (hpl : pg.length ≤ 48) (hpn : ∀ f, pg_n pg f ≤ 4) (hp : (tp_t (p + 1)).2 = 4) (hkn : ∀ i, i < 4 → mk_bt m i = true → S.1 (p + 1) i = kn i) : ∀ (l : List mk_V) (k F : Nat), vs.drop k = l → k ≤ vs.length → fn_Versions_find_3 (F + 1 + l.length) v (Int32.ofNat f) (Int32.ofNat m) p (Int32.ofNat k) S = some (match mk_fd f m kn l k with
    | some j => Int32.ofNat j
    | none => -1, S) := by
  have hl := mk_ok_len hv.2.1
  intro l
  induction l with
  | nil =>
    intro k F hd hk
    have hk2 : k = vs.length := Nat.le_antisymm hk (List.drop_eq_nil_iff.mp hd)
    rw [show F + 1 + ([] : List mk_V).length = F + 1 from rfl, fn_Versions_find_3]
    unfold fn_Versions_count fn_Bodies_count
    rw [wd_c_s, wd_c_s, hv.1, if_neg (by rw [hk2]; exact Int32.lt_irrefl)]
    rfl
  | cons q l ih =>
    intro k F hd hk
    have hlt : k < vs.length := by
      rcases Nat.lt_or_ge k vs.length with z | z
      · exact z
      · rw [List.drop_eq_nil_of_le z] at hd; cases hd
    rw [List.drop_eq_getElem_cons hlt] at hd
    injection hd with hq hd2
    obtain ⟨a1, a2, -, a4⟩ := hv.2.2 k hlt
    rw [hq] at a1 a2 a4
    have hmem : q ∈ vs := by rw [← hq]; exact List.getElem_mem hlt
    obtain ⟨c1, c2⟩ := hv.2.1.1 q hmem
    have hp16 : 2 ^ pg_n pg q.1 ≤ 2 ^ 4 := Nat.pow_le_pow_right (by decide) (hpn _)
    have hgo : mk_is f m kn q = false → fn_Versions_find_46 (fn_Versions_find_3 (F + 1 + l.length)) v (Int32.ofNat f) (Int32.ofNat m) p (Int32.ofNat k) S = some (match mk_fd f m kn (q :: l) k with
        | some j => Int32.ofNat j
        | none => -1, S) := fun hn => by
      unfold fn_Versions_find_46
      rw [im_s, ih (k + 1) F hd2 hlt, mk_fd, if_neg (by rw [hn]; decide)]
    show fn_Versions_find_3 (F + 1 + l.length + 1) v (Int32.ofNat f) (Int32.ofNat m) p (Int32.ofNat k) S = _
    rw [fn_Versions_find_3]
    unfold fn_Versions_count fn_Bodies_count fn_Versions_functionOf fn_Versions_mask
    rw [wd_c_s, wd_c_s, hv.1, if_pos ((im_lt (by omega) (by omega)).mpr hlt), ro_at_ok, wd_c_s, wd_c_s, ro_an (r := v + 19) hT.2.2.1 (show k < 78 by omega), a1]
    by_cases e1 : q.1 = f
    · rw [if_pos (by rw [e1]), ro_at_ok, wd_c_s, wd_c_s, ro_an (r := v + 21) hT.2.2.2.1 (show k < 78 by omega), a2]
      by_cases e2 : q.2.1 = m
      · obtain ⟨ee, he, hi⟩ := cv_ag (S := S) hT hm (show k < 78 by omega) hp
        rw [if_pos (by rw [e2]), he, wd_c_s]
        by_cases e3 : ∀ j, j < 4 → mk_bt m j = true → S.1 (v + 24) (4 * k + j) = S.1 (p + 1) j
        · rw [hi.mpr e3, if_pos (rfl : true = true), if_neg (show ¬(1 : Int32) = 0 by decide), mk_fd, if_pos (mk_is_iff.mpr ⟨e1, e2, fun i h1 h2 => by rw [← a4 i h1, e3 i h1 h2, hkn i h1 h2]⟩)]
        · have ef : ee = false := Bool.eq_false_iff.mpr (fun z => e3 (hi.mp z))
          rw [ef, if_neg (show ¬false = true by decide), if_pos rfl]
          exact hgo (mk_is_no (fun q => e3 (fun j h1 h2 => by rw [a4 j h1, q.2.2 j h1 h2, hkn j h1 h2])))
      · rw [if_neg (fun z => e2 ((im_eq (by omega) (by omega)).mp z))]
        exact hgo (mk_is_no (fun q => e2 q.2.1))
    · rw [if_neg (fun z => e1 ((im_eq (by omega) hf).mp z))]
      exact hgo (mk_is_no (fun q => e1 q.1))
theorem cv_find (hT : cv_T v) (hm : m < 16) (hf : f < 2147483648) (hv : cm_v v pg vs S) (hpl : pg.length ≤ 48) (hpn : ∀ f, pg_n pg f ≤ 4) (hp : (tp_t (p + 1)).2 = 4) (hkn : ∀ i, i < 4 → mk_bt m i = true → S.1 (p + 1) i = kn i) : fn_Versions_find v (Int32.ofNat f) (Int32.ofNat m) p S = some (match mk_fd f m kn vs 0 with
    | some j => Int32.ofNat j
    | none => -1, S) := by
  have hl := mk_ok_len hv.2.1
  unfold fn_Versions_find
  rw [show wd_F = (999999 - vs.length) + 1 + vs.length by rw [show wd_F = 1000000 from rfl]; omega]
  exact cv_find3 hT hm hf hv hpl hpn hp hkn vs 0 _ rfl (Nat.zero_le _)
theorem cv_add39 (hT : cv_T v) (hm : m < 16) (hk : k < 78) (hp : (tp_t (p + 1)).2 = 4) (hp2 : p + 1 ≠ v + 24) (hkn : ∀ i, i < 4 → mk_bt m i = true → S.1 (p + 1) i = kn i) : ∀ (r i F : Nat) (S1 : wd_S), i + r = 4 → of_f (fun a j => a = v + 24 ∧ 4 * k ≤ j ∧ j < 4 * k + 4) S S1 → (∀ j, j < i → S1.1 (v + 24) (4 * k + j) = if mk_bt m j = true then kn j else 0) → ∃ S', fn_Versions_add_39 (F + 1 + r) v (Int32.ofNat m) p (Int32.ofNat k) (Int32.ofNat i) S1 = some (Int32.ofNat k, S') ∧ of_f (fun a j => a = v + 24 ∧ 4 * k ≤ j ∧ j < 4 * k + 4) S S' ∧ ∀ j, j < 4 → S'.1 (v + 24) (4 * k + j) = if mk_bt m j = true then kn j else 0 := by
  intro r
  induction r with
  | zero =>
    intro i F S1 hi ho hj
    have hi : i = 4 := hi
    subst hi
    refine ⟨S1, ?_, ho, hj⟩
    rw [Nat.add_zero, fn_Versions_add_39, if_neg (by decide)]
  | succ r ih =>
    intro i F S1 hi ho hj
    have hi4 : i < 4 := by omega
    have fin : ∀ x, (x = if mk_bt m i = true then kn i else 0) → ∃ S', fn_Versions_add_75 (fn_Versions_add_39 (F + 1 + r)) v (Int32.ofNat m) p (Int32.ofNat k) (Int32.ofNat i) (v + 23) (Int32.ofNat k * 4 + Int32.ofNat i) x S1 = some (Int32.ofNat k, S') ∧ of_f (fun a j => a = v + 24 ∧ 4 * k ≤ j ∧ j < 4 * k + 4) S S' ∧ ∀ j, j < 4 → S'.1 (v + 24) (4 * k + j) = if mk_bt m j = true then kn j else 0 := fun x hx => by
      unfold fn_Versions_add_75
      rw [ro_put_ok, wd_d_s, im_s, show Int32.ofNat k * 4 + Int32.ofNat i = Int32.ofNat (4 * k + i) by rw [show (4 : Int32) = Int32.ofNat 4 from rfl, im_ma, Nat.mul_comm], ro_pn (r := v + 23) hT.2.2.2.2 (show 4 * k + i < 312 by omega)]
      refine ih (i + 1) F _ (by omega) (of_i (by omega) ho) (fun j h1 => ?_)
      by_cases e : j = i
      · rw [e, fr_e (by omega), hx]
      · rw [fr_ne (by omega)]; exact hj j (by omega)
    show ∃ S', fn_Versions_add_39 (F + 1 + r + 1) v (Int32.ofNat m) p (Int32.ofNat k) (Int32.ofNat i) S1 = _ ∧ _
    rw [fn_Versions_add_39, if_pos (show Int32.ofNat i < 4 from (im_lt (m := i) (n := 4) (by omega) (by omega)).mpr hi4), cv_in hm hi4, wd_c_s]
    cases hb : mk_bt m i with
    | false =>
      rw [if_neg (show ¬false = true by decide), if_pos rfl]
      exact fin 0 (by rw [hb, if_neg (show ¬false = true by decide)])
    | true =>
      rw [if_pos (rfl : true = true), if_neg (show ¬(1 : Int32) = 0 by decide), ro_at_ok, wd_c_s, ro_an hp hi4, ho.1 (p + 1) i (by omega)]
      exact fin _ (by rw [hb, if_pos rfl, hkn i hi4 hb])
theorem cv_add (hT : cv_T v) (hv : cm_v v pg vs S) (hpl : pg.length ≤ 48) (hpn : ∀ f, pg_n pg f ≤ 4) (hok : mk_ok pg (vs ++ [mk_new f m kn])) (hp : (tp_t (p + 1)).2 = 4) (hp2 : 103 < p) (hkn : ∀ i, i < 4 → mk_bt m i = true → S.1 (p + 1) i = kn i) : ∃ S', fn_Versions_add v (Int32.ofNat f) (Int32.ofNat m) p (Int32.ofNat (pg_n pg f)) S = some (Int32.ofNat vs.length, S') ∧ of_f (cv_W v) S S' ∧ cm_v v pg (vs ++ [mk_new f m kn]) S' := by
  have hl := mk_ok_len hok
  rw [List.length_append] at hl
  have hl : vs.length + 1 ≤ 30 + pg.length := hl
  obtain ⟨hf, hm⟩ := hok.1 (mk_new f m kn) (List.mem_append_right _ List.mem_cons_self)
  have hm : m < 2 ^ pg_n pg f := hm
  have hp16 : 2 ^ pg_n pg f ≤ 2 ^ 4 := Nat.pow_le_pow_right (by decide) (hpn _)
  have hv' := hT.1
  have hm16 : m < 16 := by omega
  have el := mk_lf_c (pg_n pg f) (by have := hpn f; omega) m hm
  have ed : Int32.ofNat (pg_n pg f) - Int32.ofNat (kn_c m) = Int32.ofNat (mk_lf m (pg_n pg f)) := by
    have e2 : Int32.ofNat (pg_n pg f) = Int32.ofNat (mk_lf m (pg_n pg f)) + Int32.ofNat (kn_c m) := by rw [← Int32.ofNat_add, el]
    rw [e2, Int32.add_sub_cancel]
  unfold fn_Versions_add fn_Bodies_add
  simp only [wd_b]
  rw [kn_bits hm16, wd_c_s, ed, hv.1, ro_put_ok, wd_d_s, ro_pn (r := v + 1 + 16) (show (tp_t (v + 1 + 16 + 1)).2 = 78 by rw [show v + 1 + 16 + 1 = v + 18 by omega]; exact hT.2.1) (show vs.length < 78 by omega), fr_ne (show ¬(v + 1 = v + 1 + 16 + 1 ∧ 3 = vs.length) by omega), hv.1, im_s, wd_c_s, fr_eq, im_p, ro_put_ok, wd_d_s, ro_pn (r := v + 19) hT.2.2.1 (show vs.length < 78 by omega), ro_put_ok, wd_d_s, ro_pn (r := v + 21) hT.2.2.2.1 (show vs.length < 78 by omega)]
  generalize hS3 : wd_i (wd_i (wd_i (wd_i S (v + 1 + 16 + 1) vs.length (Int32.ofNat (mk_lf m (pg_n pg f)))) (v + 1) 3 (Int32.ofNat (vs.length + 1))) (v + 19 + 1) vs.length (Int32.ofNat f)) (v + 21 + 1) vs.length (Int32.ofNat m) = S3
  have o3 : of_f (fun a j => (a = v + 1 ∧ j = 3) ∨ ((a = v + 18 ∨ a = v + 20 ∨ a = v + 22) ∧ j = vs.length)) S S3 := by
    rw [← hS3]
    exact of_i (by omega) (of_i (by omega) (of_i (by omega) (of_i (by omega) of_refl)))
  have v1 : S3.1 (v + 1) 3 = Int32.ofNat (vs.length + 1) := by rw [← hS3, fr_ne (by omega), fr_ne (by omega), fr_eq]
  have v18 : S3.1 (v + 18) vs.length = Int32.ofNat (mk_lf m (pg_n pg f)) := by rw [← hS3, fr_ne (by omega), fr_ne (by omega), fr_ne (by omega), fr_e (by omega)]
  have v20 : S3.1 (v + 20) vs.length = Int32.ofNat f := by rw [← hS3, fr_ne (by omega), fr_e (by omega)]
  have v22 : S3.1 (v + 22) vs.length = Int32.ofNat m := by rw [← hS3, fr_e (by omega)]
  clear hS3
  obtain ⟨S4, f4, o4, c4⟩ := cv_add39 (S := S3) (kn := kn) hT hm16 (show vs.length < 78 by omega) hp (by omega) (fun i h1 h2 => by rw [o3.1 (p + 1) i (by omega)]; exact hkn i h1 h2) 4 0 999995 S3 rfl of_refl (fun j hj => absurd hj (Nat.not_lt_zero _))
  refine ⟨S4, f4, of_trans (of_mono (fun a k q => by unfold cv_W; omega) o3) (of_mono (fun a k q => by unfold cv_W; omega) o4), ?_, hok, fun j hj => ?_⟩
  · rw [o4.1 (v + 1) 3 (by omega), v1, List.length_append]
    rfl
  · rw [List.length_append] at hj
    have hj : j < vs.length + 1 := hj
    by_cases e : j = vs.length
    · subst e
      rw [List.getElem_append_right (Nat.le_refl _)]
      simp only [Nat.sub_self, List.getElem_cons_zero]
      exact ⟨by rw [o4.1 (v + 20) _ (by omega)]; exact v20, by rw [o4.1 (v + 22) _ (by omega)]; exact v22, by rw [o4.1 (v + 18) _ (by omega)]; exact v18, c4⟩
    · have hj2 : j < vs.length := by omega
      rw [List.getElem_append_left hj2]
      obtain ⟨k1, k2, k3, k4⟩ := hv.2.2 j hj2
      refine ⟨?_, ?_, ?_, fun i hi => ?_⟩
      · rw [o4.1 (v + 20) _ (by omega), o3.1 (v + 20) _ (by omega)]; exact k1
      · rw [o4.1 (v + 22) _ (by omega), o3.1 (v + 22) _ (by omega)]; exact k2
      · rw [o4.1 (v + 18) _ (by omega), o3.1 (v + 18) _ (by omega)]; exact k3
      · rw [o4.1 (v + 24) _ (by omega), o3.1 (v + 24) _ (by omega)]; exact k4 i hi
end Cv
end
/-! part b05 -/
section
/-! The class's maker: a call's arguments looked at, dropped. -/
abbrev ca_T : Type := List (Nat × mk_R)
def ca_z (ps : ca_T) : List Nat := ps.map (fun p => p.1)
def ca_a (ps : ca_T) : List mk_R := ps.map (fun p => p.2)
def ca_k (ps : ca_T) : ca_T := ps.filter (fun p => decide (¬tr_k p.2.1 = 1))
theorem ca_kp (ps : ca_T) : mk_kp (ca_a ps) = ca_a (ca_k ps) := by
  unfold mk_kp ca_a ca_k
  rw [List.filter_map]
  rfl
section Cm4
variable {b v : Nat} {pg : pg_T} {S0 S S' S1 S2 : wd_S} {N N' : mk_N} {s s' : mk_S} {c c' y z d r g n : Nat} {t : tr_T} {ps : ca_T}
theorem ca_at {i : Nat} (hi : i < ps.length) : mk_at (ca_a ps) i = ps[i].2 := by
  unfold mk_at ca_a
  rw [List.getD_eq_getElem?_getD, List.getElem?_map, List.getElem?_eq_getElem hi]
  rfl
/-- what is wanted -/
theorem cm_gw4 (hX : cm_X b v pg S0) (ho : of_r (cm_W v) cx_R S0 S) (hc : c < 1000) (h4 : ps.length ≤ 4) (h6 : S.1 (v + 2 + 6) c = Int32.ofNat ps.length) (h8 : ∀ j, (hj : j < ps.length) → S.1 (v + 2 + 8) (4 * c + j) = Int32.ofNat ps[j].1 ∧ ps[j].1 < 1000 ∧ S.1 (v + 2 + 2) ps[j].1 = tr_k ps[j].2.1 ∧ S.1 (v + 2 + 4) ps[j].1 = tr_v ps[j].2.1) : ∀ (r i F : Nat) (S1 : wd_S), i + r = ps.length → of_f (fun a k => a = 121) S S1 → (∀ j, j < i → mk_nb (ca_a ps) j = true → S1.1 121 j = mk_kn (ca_a ps) j) → ∃ S', fn_Maker_gatherWanted_4 (F + 1 + r) (Int32.ofNat c) (Int32.ofNat (mk_mk (mk_nb (ca_a ps)) i)) (Int32.ofNat i) S1 = some (Int32.ofNat (mk_mk (mk_nb (ca_a ps)) ps.length), S') ∧ of_f (fun a k => a = 121) S S' ∧ ∀ j, j < ps.length → mk_nb (ca_a ps) j = true → S'.1 121 j = mk_kn (ca_a ps) j := by
  obtain ⟨t9, t0, t8, ⟨g2, g4, g6, g8, g10, g12⟩, -⟩ := cm_vv hX
  have hv := hX.2.1
  intro r
  induction r with
  | zero =>
    intro i F S1 hi o1 hj
    have hi : i = ps.length := hi
    subst hi
    refine ⟨S1, ?_, o1, hj⟩
    rw [Nat.add_zero, fn_Maker_gatherWanted_4]
    have oo : of_r (cm_W v) cx_R S0 S1 := ofr_trans ho (ofr_of (fun a k q => by unfold cm_W; omega) o1)
    unfold fn_Maker_gatherWanted_70
    split
    · rw [cm_r4 hX oo, if_pos t8, fo_tparts, wd_c_s, ro_an (r := v + 2 + 5) g6 hc, o1.1 (v + 2 + 5 + 1) c (by omega), h6, if_neg Int32.lt_irrefl]
    · rfl
  | succ r ih =>
    intro i F S1 hi o1 hj
    have hil : i < ps.length := by omega
    have oo : of_r (cm_W v) cx_R S0 S1 := ofr_trans ho (ofr_of (fun a k q => by unfold cm_W; omega) o1)
    obtain ⟨k1, k2, k3, k4⟩ := h8 i hil
    have hnb : mk_nb (ca_a ps) i = decide (tr_k ps[i].2.1 = 1) := by unfold mk_nb; rw [ca_at hil]
    have hkn : mk_kn (ca_a ps) i = tr_v ps[i].2.1 := by unfold mk_kn; rw [ca_at hil]
    show ∃ S', fn_Maker_gatherWanted_4 (F + 1 + r + 1) (Int32.ofNat c) (Int32.ofNat (mk_mk (mk_nb (ca_a ps)) i)) (Int32.ofNat i) S1 = _ ∧ _
    rw [fn_Maker_gatherWanted_4, if_pos (show Int32.ofNat i < 4 from (im_lt (m := i) (n := 4) (by omega) (by omega)).mpr (by omega)), cm_r4 hX oo, if_pos t8, fo_tparts, wd_c_s, ro_an (r := v + 2 + 5) g6 hc, o1.1 (v + 2 + 5 + 1) c (by omega), h6, if_pos ((im_lt (by omega) (by omega)).mpr hil), cm_r4 hX oo, if_pos t8, fo_tpart, wd_c_s, if_neg (im_neg (by omega)), if_pos (show Int32.ofNat i < 4 from (im_lt (m := i) (n := 4) (by omega) (by omega)).mpr (by omega)), show Int32.ofNat c * 4 + Int32.ofNat i = Int32.ofNat (4 * c + i) by rw [show (4 : Int32) = Int32.ofNat 4 from rfl, im_ma, Nat.mul_comm], ro_an (r := v + 2 + 7) g8 (show 4 * c + i < 4 * 1000 by omega), o1.1 (v + 2 + 7 + 1) _ (by omega), show S.1 (v + 2 + 7 + 1) (4 * c + i) = Int32.ofNat ps[i].1 from k1, cm_isn hX oo k2, wd_c_s, o1.1 (v + 2 + 2) _ (by omega), k3]
    unfold fn_Maker_gatherWanted_64
    by_cases e : tr_k ps[i].2.1 = 1
    · rw [if_pos e, if_neg (by decide), cm_r4 hX oo, if_pos t8, cm_vl hX k2, wd_c_s, ro_put_ok, wd_d_s, ro_pn cm_121 (show i < 4 by omega), o1.1 (v + 2 + 4) _ (by omega), k4, im_s, mk_i_or i (by omega) _ (mk_mk_lt _ i)]
      have em : mk_mk (mk_nb (ca_a ps)) i + 2 ^ i = mk_mk (mk_nb (ca_a ps)) (i + 1) := by
        show _ = mk_mk (mk_nb (ca_a ps)) i + (if mk_nb (ca_a ps) i = true then 2 ^ i else 0)
        rw [hnb, decide_eq_true e, if_pos rfl]
      rw [em]
      refine ih (i + 1) F _ (by omega) (of_i rfl o1) (fun j h1 h2 => ?_)
      by_cases ej : j = i
      · rw [ej, fr_e (by omega), hkn]
      · rw [fr_ne (by omega)]; exact hj j (by omega) h2
    · rw [if_neg e, if_pos rfl, im_s]
      have em : mk_mk (mk_nb (ca_a ps)) i = mk_mk (mk_nb (ca_a ps)) (i + 1) := by
        show _ = mk_mk (mk_nb (ca_a ps)) i + (if mk_nb (ca_a ps) i = true then 2 ^ i else 0)
        rw [hnb, decide_eq_false e, if_neg (by decide), Nat.add_zero]
      rw [em]
      refine ih (i + 1) F _ (by omega) o1 (fun j h1 h2 => ?_)
      by_cases ej : j = i
      · rw [ej, hnb, decide_eq_false e] at h2; cases h2
      · exact hj j (by omega) h2
/-- NUMBERS are dropped -/
theorem cm_dr4 (gL : nd_L (v + 2) 1000) (hc : c < 1000) (hn : n ≤ 4) : ∀ (rs ks : ca_T) (i K F : Nat) (S : wd_S), i + rs.length = n → ks.length ≤ i → S.1 (v + 2 + 6) c = Int32.ofNat n → S.1 (v + 2 + 10) c = Int32.ofNat (K + mk_sz (ca_a rs)) → (∀ j, (hj : j < ks.length) → S.1 (v + 2 + 8) (4 * c + j) = Int32.ofNat ks[j].1) → (∀ j, (hj : j < rs.length) → S.1 (v + 2 + 8) (4 * c + (i + j)) = Int32.ofNat rs[j].1) → (∀ p, p ∈ rs → p.1 < 1000 ∧ S.1 (v + 2 + 2) p.1 = tr_k p.2.1 ∧ (tr_k p.2.1 = 1 → p.2.2 = (1, 0))) → ∃ S', fn_Trees_dropNumbers_4 (F + 1 + rs.length) (v + 2) (Int32.ofNat c) (Int32.ofNat ks.length) (Int32.ofNat i) S = some S' ∧ of_f (fun a k => ((a = v + 2 + 6 ∨ a = v + 2 + 10) ∧ k = c) ∨ (a = v + 2 + 8 ∧ 4 * c ≤ k ∧ k < 4 * c + 4)) S S' ∧ S'.1 (v + 2 + 6) c = Int32.ofNat (ks ++ ca_k rs).length ∧ S'.1 (v + 2 + 10) c = Int32.ofNat (K + mk_sz (ca_a (ca_k rs))) ∧ ∀ j, (hj : j < (ks ++ ca_k rs).length) → S'.1 (v + 2 + 8) (4 * c + j) = Int32.ofNat (ks ++ ca_k rs)[j].1 := by
  obtain ⟨g2, g4, g6, g8, g10, g12⟩ := gL
  intro rs
  induction rs with
  | nil =>
    intro ks i K F S hi hk h6 h10 h8 _ _
    have hi : i = n := hi
    rw [show F + 1 + ([] : ca_T).length = F + 1 from rfl, fn_Trees_dropNumbers_4, fo_tparts, wd_c_s, ro_an (r := v + 2 + 5) g6 hc, show S.1 (v + 2 + 5 + 1) c = Int32.ofNat n from h6, hi, if_neg Int32.lt_irrefl, ro_put_ok, wd_d_s, ro_pn (r := v + 2 + 5) g6 hc]
    have e0 : ks ++ ca_k [] = ks := List.append_nil _
    refine ⟨_, rfl, of_i (by omega) of_refl, ?_, ?_, ?_⟩
    · rw [fr_e (by omega), e0]
    · rw [fr_ne (by omega)]; exact h10
    · rw [e0]
      intro j hj
      rw [fr_ne (by omega)]
      exact h8 j hj
  | cons p rs ih =>
    intro ks i K F S hi hk h6 h10 h8 h8' hp
    have hi : i + (rs.length + 1) = n := hi
    obtain ⟨p1, p2, p3⟩ := hp p List.mem_cons_self
    have hz : S.1 (v + 2 + 8) (4 * c + i) = Int32.ofNat p.1 := h8' 0 (Nat.zero_lt_succ _)
    show ∃ S', fn_Trees_dropNumbers_4 (F + 1 + rs.length + 1) (v + 2) (Int32.ofNat c) (Int32.ofNat ks.length) (Int32.ofNat i) S = _ ∧ _
    rw [fn_Trees_dropNumbers_4, fo_tparts, wd_c_s, ro_an (r := v + 2 + 5) g6 hc, show S.1 (v + 2 + 5 + 1) c = Int32.ofNat n from h6, if_pos ((im_lt (by omega) (by omega)).mpr (by omega)), fo_tpart, wd_c_s, if_neg (im_neg (by omega)), if_pos (show Int32.ofNat i < 4 from (im_lt (m := i) (n := 4) (by omega) (by omega)).mpr (by omega)), show Int32.ofNat c * 4 + Int32.ofNat i = Int32.ofNat (4 * c + i) by rw [show (4 : Int32) = Int32.ofNat 4 from rfl, im_ma, Nat.mul_comm], ro_an (r := v + 2 + 7) g8 (show 4 * c + i < 4 * 1000 by omega), show S.1 (v + 2 + 7 + 1) (4 * c + i) = Int32.ofNat p.1 from hz, fo_tkind, wd_c_s, ro_an (r := v + 2 + 1) g2 p1, show S.1 (v + 2 + 1 + 1) p.1 = tr_k p.2.1 from p2]
    unfold fn_Trees_dropNumbers_69
    by_cases e : tr_k p.2.1 = 1
    · have ek : ca_k (p :: rs) = ca_k rs := List.filter_cons_of_neg (by rw [decide_eq_true_iff]; exact fun q => q e)
      have es : K + mk_sz (ca_a (p :: rs)) = K + mk_sz (ca_a rs) + 1 := by
        show K + (p.2.2.1 + mk_sz (ca_a rs)) = _
        rw [p3 e]
        show K + (1 + mk_sz (ca_a rs)) = _
        omega
      rw [if_pos e, ro_at_ok, wd_c_s, ro_an (r := v + 2 + 9) g10 hc, show S.1 (v + 2 + 9 + 1) c = Int32.ofNat (K + mk_sz (ca_a (p :: rs))) from h10, es, im_p, ro_put_ok, wd_d_s, ro_pn (r := v + 2 + 9) g10 hc, im_s, ek]
      obtain ⟨S', f1, o1, q1, q2, q3⟩ := ih ks (i + 1) K F (wd_i S (v + 2 + 9 + 1) c (Int32.ofNat (K + mk_sz (ca_a rs)))) (by omega) (by omega) (by rw [fr_ne (by omega)]; exact h6) (by rw [fr_e (by omega)]) (fun j hj => by rw [fr_ne (by omega)]; exact h8 j hj) (fun j hj => by
          rw [fr_ne (by omega), show i + 1 + j = i + (j + 1) by omega]
          exact h8' (j + 1) (Nat.succ_lt_succ hj)) (fun q hq => by
          obtain ⟨r1, r2, r3⟩ := hp q (List.mem_cons_of_mem _ hq)
          exact ⟨r1, by rw [fr_ne (by omega)]; exact r2, r3⟩)
      exact ⟨S', f1, of_trans (of_i (by omega) of_refl) o1, q1, q2, q3⟩
    · have ek : ca_k (p :: rs) = p :: ca_k rs := List.filter_cons_of_pos (decide_eq_true e)
      rw [if_neg e, show Int32.ofNat c * 4 + Int32.ofNat ks.length = Int32.ofNat (4 * c + ks.length) by rw [show (4 : Int32) = Int32.ofNat 4 from rfl, im_ma, Nat.mul_comm], ro_put_ok, wd_d_s, ro_pn (r := v + 2 + 7) g8 (show 4 * c + ks.length < 4 * 1000 by omega), im_s, im_s]
      have el : ks.length + 1 = (ks ++ [p]).length := by rw [List.length_append]; rfl
      rw [el]
      obtain ⟨S', f1, o1, q1, q2, q3⟩ := ih (ks ++ [p]) (i + 1) (K + p.2.2.1) F (wd_i S (v + 2 + 7 + 1) (4 * c + ks.length) (Int32.ofNat p.1)) (by omega) (by rw [← el]; omega) (by rw [fr_ne (by omega)]; exact h6) (by
          rw [fr_ne (by omega), h10]
          show Int32.ofNat (K + (p.2.2.1 + mk_sz (ca_a rs))) = _
          rw [Nat.add_assoc]) (fun j hj => by
          rw [← el] at hj
          by_cases ej : j = ks.length
          · subst ej
            rw [fr_e (by omega), List.getElem_append_right (Nat.le_refl _)]
            simp only [Nat.sub_self, List.getElem_cons_zero]
          · rw [fr_ne (by omega), List.getElem_append_left (show j < ks.length by omega)]
            exact h8 j (by omega)) (fun j hj => by
          rw [fr_ne (by omega), show i + 1 + j = i + (j + 1) by omega]
          exact h8' (j + 1) (Nat.succ_lt_succ hj)) (fun q hq => by
          obtain ⟨r1, r2, r3⟩ := hp q (List.mem_cons_of_mem _ hq)
          exact ⟨r1, by rw [fr_ne (by omega)]; exact r2, r3⟩)
      have e2 : (ks ++ [p]) ++ ca_k rs = ks ++ ca_k (p :: rs) := by rw [ek, List.append_assoc]; rfl
      refine ⟨S', f1, of_trans (of_i (by omega) of_refl) o1, by rw [← e2]; exact q1, ?_, by rw [← e2]; exact q3⟩
      rw [q2, ek]
      show _ = Int32.ofNat (K + (p.2.2.1 + mk_sz (ca_a (ca_k rs))))
      rw [Nat.add_assoc]
theorem ca_lt (h : ∀ p, p ∈ ps → tr_k p.2.1 = 1 → p.2.2 = (1, 0)) : mk_lt (ca_a (ca_k ps)) = mk_lt (ca_a ps) := by
  induction ps with
  | nil => rfl
  | cons p ps ih =>
    have ih := ih (fun q hq => h q (List.mem_cons_of_mem _ hq))
    by_cases e : tr_k p.2.1 = 1
    · have ek : ca_k (p :: ps) = ca_k ps := List.filter_cons_of_neg (by rw [decide_eq_true_iff]; exact fun q => q e)
      rw [ek, ih]
      show _ = p.2.2.2 + mk_lt (ca_a ps)
      rw [h p List.mem_cons_self e, Nat.zero_add]
    · have ek : ca_k (p :: ps) = p :: ca_k ps := List.filter_cons_of_pos (decide_eq_true e)
      rw [ek]
      show p.2.2.2 + mk_lt (ca_a (ca_k ps)) = p.2.2.2 + mk_lt (ca_a ps)
      rw [ih]
end Cm4
end
/-! part b06 -/
section
/-! The class's maker: calls. -/
theorem ev_er1 {P : List tr_T} {self : ev_P} (hs : ∀ V s m t e, self V s m t = .error (some e) → e.1 = 2 ∨ e.1 = 3) : ∀ (t : tr_T) (r j : Nat) (V : ev_V) (s m : Nat) (e : Int32 × Nat × Nat), ev_args self t r j V s m = .error (some e) → e.1 = 2 ∨ e.1 = 3 := by
  intro t r
  induction r with
  | zero => intro j V s m e h; cases h
  | succ r ih =>
    intro j V s m e h
    unfold ev_args at h
    cases h1 : self V s m (tr_sub t j) with
    | error e1 => rw [h1] at h; cases h; exact hs _ _ _ _ _ h1
    | ok q =>
      rw [h1] at h
      have h : ev_b (ev_args self t r (j + 1) q.2.1 q.2.2.1 q.2.2.2) (fun w => .ok (q.1 :: w.1, w.2)) = .error (some e) := h
      cases h2 : ev_args self t r (j + 1) q.2.1 q.2.2.1 q.2.2.2 with
      | error e1 => rw [h2] at h; cases h; exact ih _ _ _ _ _ h2
      | ok w => rw [h2] at h; cases h
theorem ev_b_er {α β : Type} {x : Except ev_E α} {f : α → Except ev_E β} {e : ev_E} (h : ev_b x f = .error e) : x = .error e ∨ ∃ a, x = .ok a ∧ f a = .error e := by
  cases x with
  | error e1 => cases h; exact Or.inl rfl
  | ok a => exact Or.inr ⟨a, rfl, h⟩
theorem ev_er {P : List tr_T} {lim : Nat} : ∀ (r : Nat) (V : ev_V) (s m : Nat) (t : tr_T) (e : Int32 × Nat × Nat), ev P lim r V s m t = .error (some e) → e.1 = 2 ∨ e.1 = 3 := by
  intro r
  induction r with
  | zero =>
    intro V s m t e h
    unfold ev at h
    split at h
    · cases h; exact Or.inl rfl
    · cases h; exact Or.inr rfl
  | succ r ih =>
    intro V s m t e h
    unfold ev at h
    split at h
    · cases h; exact Or.inl rfl
    · unfold ev_in at h
      split at h
      · split at h
        · cases h
        · split at h
          · split at h
            · cases h
            · cases h
          · split at h
            · rcases ev_b_er h with h1 | ⟨a, h1, h2⟩
              · exact ih _ _ _ _ _ h1
              · exact ih _ _ _ _ _ h2
            · split at h
              · rcases ev_b_er h with h1 | ⟨a, h1, h2⟩
                · exact ih _ _ _ _ _ h1
                · exact ih _ _ _ _ _ h2
              · split at h
                · rcases ev_b_er h with h1 | ⟨a, h1, h2⟩
                  · exact ev_er1 (P := P) ih _ _ _ _ _ _ _ h1
                  · rcases ev_b_er h2 with h3 | ⟨w, h3, h4⟩
                    · exact ih _ _ _ _ _ h3
                    · cases h4
                · rcases ev_b_er h with h1 | ⟨a, h1, h2⟩
                  · exact ih _ _ _ _ _ h1
                  · rcases ev_b_er h2 with h3 | ⟨w, h3, h4⟩
                    · exact ih _ _ _ _ _ h3
                    · cases h4
      · cases h
section Cm5
variable {b v : Nat} {pg : pg_T} {S0 S S' S1 S2 S9 : wd_S} {N N' : mk_N} {s s' : mk_S} {c c1 c' y z d r g n f k : Nat} {t : tr_T} {ps qs : ca_T}
theorem cm_ho (hX : cm_X b v pg S0) {W : Nat → Nat → Prop} (ho : of_r W cx_R S S') (hW : ∀ a k, W a k → cm_W v a k ∧ a ≠ 115 ∧ a ≠ 117 ∧ a ≠ 119 ∧ (a ≤ v ∨ v + 24 < a)) (h : cm_h b v pg S0 N s c S) : cm_h b v pg S0 N s c S' := by
  have hv := hX.2.1
  obtain ⟨a1, a2, a3, a4, a5, a6, a7, a8, a9⟩ := h
  have e : ∀ k, S'.1 115 k = S.1 115 k := fun k => ho.1 115 k (fun q => (hW _ _ q).2.1 rfl)
  exact ⟨ofr_trans a1 ⟨fun a k q => ho.1 a k (fun z => q (hW a k z).1), fun a k q => ho.2.1 a k (fun z => q (hW a k z).1), ho.2.2.1, ho.2.2.2⟩, by rw [e]; exact a2, by rw [e]; exact a3, by rw [e]; exact a4, by rw [ho.1 (v + 2) 6 (fun q => by have := (hW _ _ q).2.2.2.2; omega)]; exact a5, a6, a7, cm_oe ho (fun k => ⟨fun q => (hW _ _ q).2.2.1 rfl, fun q => (hW _ _ q).2.2.2.1 rfl⟩) a8, cm_ov hv ho (fun a k q => by have := (hW a k q).2.2.2.2; omega) a9⟩
theorem cm_hn (hX : cm_X b v pg S0) {W : Nat → Nat → Prop} (ho : of_r W cx_R S S') (hW : ∀ a k, W a k → (a ≤ v + 1 ∨ v + 14 < a)) (p : Nat → Prop) : nd_g (v + 2) p S S' := nd_rows (fun a h1 h2 => funext fun k => ho.1 a k (fun q => by have := hW a k q; omega))
theorem cm_pn (hX : cm_X b v pg S0) (ho : of_r (cm_W v) cx_R S0 S) (hf : f < pg.length) : S.1 (b + 17) f = Int32.ofNat (pg_n pg f) := by
  have hb := hX.1
  rw [cm_row hX ho (b + 17) (by omega), (hX.2.2.2.2.2.2.1.2 f hf).1]
  unfold pg_n
  rw [List.getD_eq_getElem?_getD, List.getElem?_eq_getElem hf]
  rfl
theorem cm_cg (hX : cm_X b v pg S0) (ho : of_r (cm_W v) cx_R S0 S) : cg_P b 1500 96 (pg_P pg) S := fun j hj => by
  have hb := hX.1
  have hj2 : j < pg.length := by unfold pg_P at hj; rw [List.length_map] at hj; exact hj
  obtain ⟨-, y, h1, h2, -⟩ := hX.2.2.2.2.2.2.1.2 j hj2
  refine ⟨y, by rw [cm_row hX ho (b + 15) (by omega)]; exact h1, nd_t_g (nd_rows (fun a q1 q2 => cm_row hX ho a (by omega))) _ _ _ ?_⟩
  rw [show (pg_P pg)[j] = pg[j].2.1 from List.getElem_map _]
  exact h2
/-- the arguments of the call at c -/
def ca_h (v r c c1 : Nat) (S : wd_S) (x : Int32) (ps : ca_T) : Prop := nd_o (v + 2) S c 5 x (ca_z ps) (1 + mk_sz (ca_a ps)) (mk_lt (ca_a ps)) ∧ ps.length ≤ 4 ∧ ∀ p, p ∈ ps → nd_t (v + 2) S (c + 1) c1 r p.1 p.2.1 ∧ (tr_k p.2.1 = 1 → p.2.2 = (1, 0))
theorem ca_g {x : Int32} (hcc : c < c1) (hg : nd_g (v + 2) (fun x => x < c1) S S') (h : ca_h v r c c1 S x ps) : ca_h v r c c1 S' x ps := ⟨nd_o_g (p := fun x => x < c1) hcc hg h.1, h.2.1, fun p hp => ⟨nd_t_g (nd_mono (fun x hx => hx.2) hg) _ _ _ (h.2.2 p hp).1, (h.2.2 p hp).2⟩⟩
/-- the call leads to version k -/
theorem cm_109 (hX : cm_X b v pg S0) (h : cm_h b v pg S0 N s c1 S) (hcc : c < c1) (ha : ca_h v r c c1 S 0 qs) (hn : nd_g (v + 2) (fun x => x < c) S9 S) (hg : c1 + g ≤ s.2.1 + c) : ∃ S', fn_Maker_leadToVersion_109 (Int32.ofNat c) (Int32.ofNat k) S = some S' ∧ cm_G b v pg S0 (r + 1) c g S9 (mk_cl k (ca_a qs), N, s) c c1 S' := by
  obtain ⟨t9, t0, t8, ⟨g2, g4, g6, g8, g10, g12⟩, -⟩ := cm_vv hX
  have h5 := h.2.2.2.2.2.1
  have h7 := h.2.2.2.2.2.2.1
  unfold fn_Maker_leadToVersion_109
  rw [cm_r4 hX h.1, if_pos t8, fo_lead, wd_d_s, ro_pn (r := v + 2 + 3) g4 (show c < 1000 by omega)]
  generalize hS1 : wd_i S (v + 2 + 3 + 1) c (Int32.ofNat k) = S1
  have e : ∀ a j, ¬(a = v + 2 + 3 + 1 ∧ j = c) → S1.1 a j = S.1 a j := fun a j q => by rw [← hS1, fr_ne q]
  have e2 : S1.2 = S.2 := by rw [← hS1]; rfl
  have ev4 : S1.1 (v + 2 + 4) c = Int32.ofNat k := by rw [← hS1, fr_e (by omega)]
  have gn : nd_g (v + 2) (fun x => x ≠ c) S S1 := fun x hx => ⟨e _ _ (by omega), e _ _ (by omega), e _ _ (by omega), e _ _ (by omega), e _ _ (by omega), fun j _ => e _ _ (by omega)⟩
  obtain ⟨⟨o2, o4, o6, o10, o12, o8⟩, hl4, hps⟩ := ha
  have o' : nd_o (v + 2) S1 c 5 (Int32.ofNat k) (ca_z qs) (1 + mk_sz (ca_a qs)) (mk_lt (ca_a qs)) := ⟨by rw [e _ _ (by omega)]; exact o2, ev4, by rw [e _ _ (by omega)]; exact o6, by rw [e _ _ (by omega)]; exact o10, by rw [e _ _ (by omega)]; exact o12, fun j hj hz => by rw [e _ _ (by omega)]; exact o8 j hj hz⟩
  refine ⟨S1, rfl, cm_t hX (fun a ha => funext fun j => e a j (by omega)) e2 (by rw [e _ _ (by omega)]; exact h.2.2.2.2.1) h5 h, hg, nd_trans hn (nd_mono (fun x hx => by omega) gn), ?_, o'.2.2.2.1, o'.2.2.2.2.1, fun q => absurd q (show ¬(5 : Int32) = 1 by decide)⟩
  have et : (mk_cl k (ca_a qs)).1 = tr_mk 5 (Int32.ofNat k) 0 (ca_z qs).length (tr_ls ((ca_a qs).map (fun a => a.1))) := by
    unfold mk_cl ca_z ca_a
    rw [List.length_map, List.length_map]
  show nd_t (v + 2) S1 c c1 (r + 1) c (mk_cl k (ca_a qs)).1
  rw [et]
  refine nd_t_mk (Nat.le_refl _) hcc o' (fun j hj => ?_)
  have hj2 : j < qs.length := by unfold ca_z at hj; rw [List.length_map] at hj; exact hj
  have e1 : (ca_z qs)[j] = qs[j].1 := List.getElem_map _
  have e3 : tr_ls ((ca_a qs).map (fun a => a.1)) j = qs[j].2.1 := by
    unfold tr_ls ca_a
    rw [List.getD_eq_getElem?_getD, List.getElem?_map, List.getElem?_map, List.getElem?_eq_getElem hj2]
    rfl
  rw [e1, e3]
  exact nd_t_r (Nat.le_succ _) (Nat.le_refl _) _ _ _ (nd_t_g (nd_mono (fun x hx => by omega) gn) _ _ _ (hps _ (List.getElem_mem hj2)).1)
/-- NUMBERS among the arguments go -/
theorem cm_drop (hX : cm_X b v pg S0) (h : cm_h b v pg S0 N s c1 S) (hcc : c < c1) (ha : ca_h v r c c1 S 0 ps) : ∃ S', fn_Trees_dropNumbers (v + 2) (Int32.ofNat c) S = some S' ∧ cm_h b v pg S0 N s c1 S' ∧ nd_g (v + 2) (fun x => x ≠ c) S S' ∧ ca_h v r c c1 S' 0 (ca_k ps) ∧ of_f (fun a k => v + 2 < a ∧ a ≤ v + 14) S S' := by
  obtain ⟨t9, t0, t8, gL, -⟩ := cm_vv hX
  have h5 := h.2.2.2.2.2.1
  have h7 := h.2.2.2.2.2.2.1
  obtain ⟨⟨o2, o4, o6, o10, o12, o8⟩, hl4, hps⟩ := ha
  have hlz : (ca_z ps).length = ps.length := List.length_map _
  unfold fn_Trees_dropNumbers
  obtain ⟨S', f1, o1, q1, q2, q3⟩ := cm_dr4 (n := ps.length) gL (show c < 1000 by omega) hl4 ps [] 0 1 (999999 - ps.length) S (Nat.zero_add _) (Nat.le_refl _) (by rw [o6, hlz]) o10 (fun j hj => absurd hj (Nat.not_lt_zero _)) (fun j hj => by
    rw [Nat.zero_add, o8 j (by omega) (by rw [hlz]; exact hj)]
    exact congrArg Int32.ofNat (List.getElem_map _)) (fun p hp => by
    obtain ⟨k1, k2, k3, k4⟩ := cm_nk (hps p hp).1
    exact ⟨by omega, k1, (hps p hp).2⟩)
  rw [show 999999 - ps.length + 1 + ps.length = wd_F by rw [show wd_F = 1000000 from rfl]; omega] at f1
  rw [List.nil_append] at q1
  have gn : nd_g (v + 2) (fun x => x ≠ c) S S' := fun x hx => ⟨o1.1 _ _ (by omega), o1.1 _ _ (by omega), o1.1 _ _ (by omega), o1.1 _ _ (by omega), o1.1 _ _ (by omega), fun j _ => o1.1 _ _ (by omega)⟩
  have hkl : (ca_k ps).length ≤ ps.length := List.length_filter_le _ _
  refine ⟨S', f1, cm_tw hX (ofr_of (fun a k q => by omega) o1) (by rw [o1.1 _ _ (by omega)]; exact h.2.2.2.2.1) h5 h, gn, ⟨⟨?_, ?_, ?_, q2, ?_, fun j hj hz => ?_⟩, by omega, fun p hp => ?_⟩, of_mono (fun a k q => by omega) o1⟩
  · rw [o1.1 _ _ (by omega)]; exact o2
  · rw [o1.1 _ _ (by omega)]; exact o4
  · rw [q1]
    exact congrArg Int32.ofNat (List.length_map _).symm
  · rw [o1.1 _ _ (by omega), o12, ca_lt (fun p hp => (hps p hp).2)]
  · have hz2 : j < (ca_k ps).length := by unfold ca_z at hz; rw [List.length_map] at hz; exact hz
    rw [q3 j (by rw [List.nil_append]; exact hz2)]
    exact congrArg Int32.ofNat (List.getElem_map (fun p : Nat × mk_R => p.1) (l := ca_k ps)).symm
  · have hp2 : p ∈ ps := (List.mem_filter.mp hp).1
    exact ⟨nd_t_g (nd_mono (fun x hx => by omega) gn) _ _ _ (hps p hp2).1, (hps p hp2).2⟩
/-- a call that stays leads to its version -/
theorem cm_lead (hX : cm_X b v pg S0) (h : cm_h b v pg S0 N s c1 S) (hcc : c < c1) (ha : ca_h v r c c1 S 0 ps) (hn : nd_g (v + 2) (fun x => x < c) S9 S) (hg : c1 + g ≤ s.2.1 + c) (hf : f < pg.length) (hl : ps.length = pg_n pg f) (hkn : ∀ j, j < ps.length → mk_nb (ca_a ps) j = true → S.1 121 j = mk_kn (ca_a ps) j) : ∃ S', fn_Maker_leadToVersion (Int32.ofNat c) (Int32.ofNat f) (Int32.ofNat (mk_ma (ca_a ps))) S = some S' ∧ cm_G b v pg S0 (r + 1) c g S9 ((mk_go f (ca_a ps) s).1, N, (mk_go f (ca_a ps) s).2) c c1 S' := by
  obtain ⟨t9, t0, t8, gL, z16, z18, z20, z22, z24⟩ := cm_vv hX
  obtain ⟨u0, u8, uL, u15, u17⟩ := cm_bb hX
  have hv := hX.2.1
  have hb := hX.1
  have hpl := hX.2.2.2.2.2.2.2.1
  have hpn := hX.2.2.2.2.2.2.2.2
  have hT : cv_T v := ⟨hv, z18, z20, z22, z24⟩
  have h9 := h.2.2.2.2.2.2.2.2
  have hlv := mk_ok_len h9.2.1
  have hla : (ca_a ps).length = ps.length := List.length_map _
  have hm2 : mk_ma (ca_a ps) < 2 ^ pg_n pg f := by
    unfold mk_ma
    rw [hla, hl]
    exact mk_mk_lt _ _
  have hp16 : 2 ^ pg_n pg f ≤ 2 ^ 4 := Nat.pow_le_pow_right (by decide) (hpn _)
  have hm16 : mk_ma (ca_a ps) < 16 := by omega
  have hk4 : ∀ i, i < 4 → mk_bt (mk_ma (ca_a ps)) i = true → S.1 121 i = mk_kn (ca_a ps) i := fun i _ hb => by
    unfold mk_ma at hb
    rw [mk_mk_bt, hla, Bool.and_eq_true] at hb
    exact hkn i (of_decide_eq_true hb.1) hb.2
  have hk0 : ∀ i, i < 4 → mk_bt 0 i = true → S.1 121 i = mk_kn (ca_a ps) i := fun i _ hb => by rw [mk_bt_0] at hb; cases hb
  have hneg : ∀ k : Nat, k < 1000 → ¬Int32.ofNat k = -1 := fun k hk q => im_neg (n := k) (by omega) (by rw [q]; decide)
  obtain ⟨d1, d2, d3⟩ := mk_ld_ok (as := ca_a ps) (kn := mk_kn (ca_a ps)) h9.2.1 hf hm2
  have eg : mk_go f (ca_a ps) s = (mk_cl (mk_ld f (mk_ma (ca_a ps)) (mk_kn (ca_a ps)) (ca_a ps) s.1).1 (mk_ld f (mk_ma (ca_a ps)) (mk_kn (ca_a ps)) (ca_a ps) s.1).2.1, (mk_ld f (mk_ma (ca_a ps)) (mk_kn (ca_a ps)) (ca_a ps) s.1).2.2, s.2) := rfl
  rw [eg]
  clear eg
  /- a new version, then led there -/
  have hadd : ∀ (m : Nat) (qs : ca_T) (S1 : wd_S), cm_h b v pg S0 N s c1 S1 → ca_h v r c c1 S1 0 qs → nd_g (v + 2) (fun x => x < c) S9 S1 → (∀ i, i < 4 → mk_bt m i = true → S1.1 121 i = mk_kn (ca_a ps) i) → mk_ok pg (s.1 ++ [mk_new f m (mk_kn (ca_a ps))]) → ∃ S', fn_Maker_leadToVersion_92 (Int32.ofNat c) (Int32.ofNat f) v (Int32.ofNat f) (Int32.ofNat m) S1 = some S' ∧ cm_G b v pg S0 (r + 1) c g S9 (mk_cl s.1.length (ca_a qs), N, s.1 ++ [mk_new f m (mk_kn (ca_a ps))], s.2) c c1 S' := fun m qs S1 g1 g2 g3 g4 g5 => by
    unfold fn_Maker_leadToVersion_92
    rw [cm_r1 hX g1.1, if_pos u0, fo_params, wd_c_s, ro_an (r := b + 16) u17 (show f < 48 by omega), show S1.1 (b + 16 + 1) f = Int32.ofNat (pg_n pg f) from cm_pn hX g1.1 hf]
    obtain ⟨S2, f2, o2, v2⟩ := cv_add (p := 120) hT g1.2.2.2.2.2.2.2.2 hpl hpn g5 rfl (by decide) g4
    rw [f2, wd_c_s]
    have o2r : of_r (cv_W v) cx_R S1 S2 := ofr_of (fun _ _ q => q) o2
    have h2 : cm_h b v pg S0 N (s.1 ++ [mk_new f m (mk_kn (ca_a ps))], s.2) c1 S2 := by
      obtain ⟨a1, a2, a3, a4, a5, a6, a7, a8, a9⟩ := g1
      have e : ∀ k, S2.1 115 k = S1.1 115 k := fun k => o2.1 115 k (by unfold cv_W; omega)
      exact ⟨ofr_trans a1 (ofr_of (fun a k q => by unfold cv_W at q; unfold cm_W; omega) o2), by rw [e]; exact a2, by rw [e]; exact a3, by rw [e]; exact a4, by rw [o2.1 (v + 2) 6 (by unfold cv_W; omega)]; exact a5, a6, a7, cm_oe o2r (fun k => by unfold cv_W; omega) a8, v2⟩
    have gn : ∀ p, nd_g (v + 2) p S1 S2 := fun p => nd_rows (fun a q1 q2 => funext fun j => o2.1 a j (by unfold cv_W; omega))
    exact cm_109 hX h2 hcc (ca_g hcc (gn _) g2) (nd_trans g3 (gn _)) hg
  unfold fn_Maker_leadToVersion
  rw [cm_r3 hX h.1, if_pos t9, cv_find (p := 120) hT hm16 (by omega) h9 hpl hpn rfl hk4, wd_c_s]
  unfold mk_ld at d1 d2 d3 ⊢
  cases e1 : mk_fd f (mk_ma (ca_a ps)) (mk_kn (ca_a ps)) s.1 0 with
  | some k =>
    obtain ⟨-, k1, -⟩ := mk_fd_lt _ _ _ e1
    dsimp only
    obtain ⟨S1, f1, h1, g1, c1', o1⟩ := cm_drop hX h hcc ha
    unfold fn_Maker_leadToVersion_33 fn_Maker_leadToVersion_38 fn_Maker_leadToVersion_71
    rw [if_neg (hneg k (by omega)), if_neg (by decide), cm_r4 hX h.1, if_pos t8, f1, wd_d_s, if_neg (hneg k (by omega)), ca_kp]
    exact cm_109 hX h1 hcc c1' (nd_trans hn (nd_mono (fun x hx => by omega) g1)) hg
  | none =>
    rw [e1] at d1 d2 d3
    dsimp only at d1 d2 d3 ⊢
    rw [if_pos rfl]
    unfold fn_Versions_count fn_Bodies_count
    rw [cm_r3 hX h.1, if_pos t9, wd_c_s, wd_c_s, h9.1]
    by_cases hlt : s.1.length < 30
    · rw [if_pos hlt] at d1 d2 d3 ⊢
      rw [if_pos (show Int32.ofNat s.1.length < 30 from (im_lt (m := s.1.length) (n := 30) (by omega) (by omega)).mpr hlt)]
      obtain ⟨S1, f1, h1, g1, c1', o1⟩ := cm_drop hX h hcc ha
      unfold fn_Maker_leadToVersion_33 fn_Maker_leadToVersion_38 fn_Maker_leadToVersion_71
      rw [if_neg (by decide), cm_r4 hX h.1, if_pos t8, f1, wd_d_s, if_pos rfl, cm_r3 hX h1.1, if_pos t9, if_neg (by decide), ca_kp]
      exact hadd _ _ S1 h1 c1' (nd_trans hn (nd_mono (fun x hx => by omega) g1)) (fun i q1 q2 => by rw [o1.1 121 i (by omega)]; exact hk4 i q1 q2) d1
    · rw [if_neg hlt] at d1 d2 d3 ⊢
      rw [if_neg (show ¬Int32.ofNat s.1.length < 30 from fun q => hlt ((im_lt (m := s.1.length) (n := 30) (by omega) (by omega)).mp q))]
      unfold fn_Maker_leadToVersion_38 fn_Maker_leadToVersion_71
      rw [if_pos rfl, cm_r3 hX h.1, if_pos t9, show (0 : Int32) = Int32.ofNat 0 from rfl, cv_find (p := 120) (m := 0) hT (by decide) (by omega) h9 hpl hpn rfl hk0, wd_c_s]
      cases e2 : mk_fd f 0 (mk_kn (ca_a ps)) s.1 0 with
      | some k =>
        obtain ⟨-, k1, -⟩ := mk_fd_lt _ _ _ e2
        dsimp only
        rw [if_neg (hneg k (by omega))]
        exact cm_109 hX h hcc ha hn hg
      | none =>
        rw [e2] at d1 d2 d3
        dsimp only at d1 d2 d3 ⊢
        rw [if_pos rfl, cm_r3 hX h.1, if_pos t9, if_pos rfl]
        exact hadd 0 ps S h ha hn hk0 d1
end Cm5
end
/-! part b07 -/
section
/-! The class's maker: calls, whole. -/
section Cm6
variable {b v : Nat} {pg : pg_T} {S0 S S' S1 S2 S9 : wd_S} {N N' : mk_N} {s s' : mk_S} {c c1 c' y z d r g n f k : Nat} {t : tr_T} {ps qs : ca_T}
theorem cm_cx (hv : v = 54 ∨ v = 79) : ∀ a k, cx_W a k → cm_W v a k ∧ a ≠ 115 ∧ a ≠ 117 ∧ a ≠ 119 ∧ (a ≤ v ∨ v + 24 < a) := fun a k q => ⟨Or.inl q, by unfold cx_W at q; omega, by unfold cx_W at q; omega, by unfold cx_W at q; omega, by unfold cx_W at q; omega⟩
theorem cm_cy (hv : v = 54 ∨ v = 79) : ∀ a k, cx_W a k → a ≤ v + 1 ∨ v + 14 < a := fun a k q => by unfold cx_W at q; omega
theorem cm_c1 (hv : v = 54 ∨ v = 79) : ∀ a k : Nat, a = 121 → cm_W v a k ∧ a ≠ 115 ∧ a ≠ 117 ∧ a ≠ 119 ∧ (a ≤ v ∨ v + 24 < a) := fun a k q => ⟨Or.inr (Or.inr (Or.inr (Or.inr (Or.inl q)))), by omega, by omega, by omega, by omega⟩
theorem cm_turn (hX : cm_X b v pg S0) (h : cm_h b v pg S0 N s c1 S) (hcc : c < c1) (hn : nd_g (v + 2) (fun x => x < c) S9 S) (hg : c1 + g ≤ s.2.1 + c) {x : Int32} : ∃ S', fn_Trees_turnIntoNumber (v + 2) (Int32.ofNat c) x S = some S' ∧ cm_G b v pg S0 (r + 1) c g S9 (mk_n x, N, s) c c1 S' := by
  obtain ⟨t9, t0, t8, ⟨g2, g4, g6, g8, g10, g12⟩, -⟩ := cm_vv hX
  have h5 := h.2.2.2.2.2.1
  have h7 := h.2.2.2.2.2.2.1
  have hc : c < 1000 := by omega
  unfold fn_Trees_turnIntoNumber
  rw [ro_put_ok, wd_d_s, ro_put_ok, wd_d_s, ro_put_ok, wd_d_s, ro_put_ok, wd_d_s, ro_put_ok, wd_d_s, ro_pn (r := v + 2 + 1) g2 hc, ro_pn (r := v + 2 + 3) g4 hc, ro_pn (r := v + 2 + 5) g6 hc, ro_pn (r := v + 2 + 9) g10 hc, ro_pn (r := v + 2 + 11) g12 hc]
  generalize hS1 : wd_i (wd_i (wd_i (wd_i (wd_i S (v + 2 + 1 + 1) c 1) (v + 2 + 3 + 1) c x) (v + 2 + 5 + 1) c 0) (v + 2 + 9 + 1) c 1) (v + 2 + 11 + 1) c 0 = S1
  have o : of_f (fun a k => (a = v + 4 ∨ a = v + 6 ∨ a = v + 8 ∨ a = v + 12 ∨ a = v + 14) ∧ k = c) S S1 := by
    rw [← hS1]
    exact of_i (by omega) (of_i (by omega) (of_i (by omega) (of_i (by omega) (of_i (by omega) of_refl))))
  have k2 : S1.1 (v + 2 + 2) c = 1 := by rw [← hS1, fr_ne (by omega), fr_ne (by omega), fr_ne (by omega), fr_ne (by omega), fr_e (by omega)]
  have k4 : S1.1 (v + 2 + 4) c = x := by rw [← hS1, fr_ne (by omega), fr_ne (by omega), fr_ne (by omega), fr_e (by omega)]
  have k6 : S1.1 (v + 2 + 6) c = 0 := by rw [← hS1, fr_ne (by omega), fr_ne (by omega), fr_e (by omega)]
  have k10 : S1.1 (v + 2 + 10) c = 1 := by rw [← hS1, fr_ne (by omega), fr_e (by omega)]
  have k12 : S1.1 (v + 2 + 12) c = 0 := by rw [← hS1, fr_e (by omega)]
  have gn : nd_g (v + 2) (fun x => x ≠ c) S S1 := fun x hx => ⟨o.1 _ _ (by omega), o.1 _ _ (by omega), o.1 _ _ (by omega), o.1 _ _ (by omega), o.1 _ _ (by omega), fun j _ => o.1 _ _ (by omega)⟩
  exact ⟨S1, rfl, cm_tw hX (ofr_of (fun a k q => by omega) o) (by rw [o.1 _ _ (by omega)]; exact h.2.2.2.2.1) h5 h, hg, nd_trans hn (nd_mono (fun x hx => by omega) gn), ⟨Nat.le_refl _, hcc, k2, k4, k6, fun j _ hj => absurd hj (Nat.not_lt_zero _)⟩, k10, k12, fun _ => rfl⟩
theorem cm_63 (hX : cm_X b v pg S0) (h : cm_h b v pg S0 N s c1 S) (hcc : c < c1) (ha : ca_h v r c c1 S 0 ps) (hn : nd_g (v + 2) (fun x => x < c) S9 S) (hg : c1 + g ≤ s.2.1 + c) (ht : nd_t (b + 1) S0 0 1500 d y t) (hf : tr_n t < pg.length) (hfv : tr_v t = Int32.ofNat (tr_n t)) (hl : ps.length = pg_n pg (tr_n t)) {slf : Nat → Int32 → Int32 → wd_S → Option ((Int32 ⊕ String) × wd_S)} : cm_R b v pg S0 (r + 1) c g S9 (mk_b (mk_call (pg_P pg) (tr_n t) (ca_a ps) s) fun w => .ok (w.1, N, w.2)) (fn_Maker_becomeCall_63 slf (Int32.ofNat y) (Int32.ofNat c) S) := by
  obtain ⟨t9, t0, t8, gL, z16, z18, z20, z22, z24⟩ := cm_vv hX
  obtain ⟨u0, u8, uL, u15, u17⟩ := cm_bb hX
  have hv := hX.2.1
  have hb := hX.1
  have hpl := hX.2.2.2.2.2.2.2.1
  have hpn := hX.2.2.2.2.2.2.2.2 (tr_n t)
  have h5 := h.2.2.2.2.2.1
  have h7 := h.2.2.2.2.2.2.1
  have hla : (ca_a ps).length = ps.length := List.length_map _
  have hlz : (ca_z ps).length = ps.length := List.length_map _
  obtain ⟨⟨o2, o4, o6, o10, o12, o8⟩, hl4, hps⟩ := id ha
  obtain ⟨S1, f1, o1, w1⟩ := cm_gw4 (ps := ps) hX h.1 (show c < 1000 by omega) hl4 (by rw [o6, hlz]) (fun j hj => by
    obtain ⟨k1, k2, k3, k4⟩ := cm_nk (hps ps[j] (List.getElem_mem hj)).1
    exact ⟨(o8 j (by omega) (by rw [hlz]; exact hj)).trans (congrArg Int32.ofNat (List.getElem_map _)), by omega, k1, k2⟩) ps.length 0 (999999 - ps.length) S (Nat.zero_add _) of_refl (fun j hj => absurd hj (Nat.not_lt_zero _))
  rw [show 999999 - ps.length + 1 + ps.length = wd_F by rw [show wd_F = 1000000 from rfl]; omega] at f1
  have f1 : fn_Maker_gatherWanted_4 wd_F (Int32.ofNat c) 0 0 S = some (Int32.ofNat (mk_mk (mk_nb (ca_a ps)) ps.length), S1) := f1
  have em : mk_mk (mk_nb (ca_a ps)) ps.length = mk_ma (ca_a ps) := by unfold mk_ma; rw [hla]
  rw [em] at f1
  have o1r : of_r (fun a k => a = 121) cx_R S S1 := ofr_of (fun _ _ q => q) o1
  have h1 := cm_ho hX o1r (cm_c1 hv) h
  have n1 : ∀ p, nd_g (v + 2) p S S1 := cm_hn hX o1r (fun a k q => by omega)
  have ha1 := ca_g hcc (n1 _) ha
  unfold fn_Maker_becomeCall_63 fn_Maker_gatherWanted
  rw [cm_r2 hX h.1, if_pos u8, (cm_node hX h.1 ht).2.1, wd_c_s, hfv, f1, wd_c_s, cm_r1 hX h1.1, if_pos u0]
  unfold fn_Bodies_paramMask
  rw [fo_params, wd_c_s, ro_an (r := b + 16) u17 (show tr_n t < 48 by omega), show S1.1 (b + 16 + 1) (tr_n t) = Int32.ofNat (pg_n pg (tr_n t)) from cm_pn hX h1.1 hf, wd_c_s, mk_i_pm _ (by omega)]
  have hm2 : mk_ma (ca_a ps) < 2 ^ pg_n pg (tr_n t) := by rw [← em, ← hl]; exact mk_mk_lt _ _
  have hp16 : 2 ^ pg_n pg (tr_n t) ≤ 2 ^ 4 := Nat.pow_le_pow_right (by decide) hpn
  unfold mk_call
  rw [hla, hl]
  by_cases e : mk_ma (ca_a ps) = 2 ^ pg_n pg (tr_n t) - 1
  · have hall : ∀ i, i < ps.length → mk_nb (ca_a ps) i = true := (mk_mk_all _ _).mp (by rw [em, e, hl])
    rw [if_pos e, if_pos (show Int32.ofNat (mk_ma (ca_a ps)) = Int32.ofNat (2 ^ pg_n pg (tr_n t) - 1) by rw [e])]
    simp only [wd_b]
    rw [h1.2.2.1, im_s]
    generalize hS2 : wd_i S1 115 9 (Int32.ofNat (s.2.2.1 + 1)) = S2
    have o2' : of_r (fun a k => a = 115 ∧ k = 9) cx_R S1 S2 := by rw [← hS2]; exact ofr_i ⟨rfl, rfl⟩ ofr_refl
    have n2 : ∀ p, nd_g (v + 2) p S1 S2 := cm_hn hX o2' (fun a k q => by omega)
    have h2 : cm_h b v pg S0 N (s.1, s.2.1, s.2.2.1 + 1, s.2.2.2) c1 S2 := by
      obtain ⟨a1, a2, a3, a4, a5, a6, a7, a8, a9⟩ := h1
      exact ⟨ofr_trans a1 ⟨fun a k q => o2'.1 a k (fun z => q (by unfold cm_W; omega)), fun a k q => o2'.2.1 a k (fun z => q (by unfold cm_W; omega)), o2'.2.2.1, o2'.2.2.2⟩, by rw [o2'.1 115 8 (by omega)]; exact a2, by rw [← hS2, fr_eq], by rw [o2'.1 115 10 (by omega)]; exact a4, by rw [o2'.1 (v + 2) 6 (by omega)]; exact a5, a6, a7, cm_oe o2' (fun k => by omega) a8, cm_ov (s := s) hv o2' (fun a k q => by omega) a9⟩
    have ha2 := ca_g hcc (n2 _) ha1
    have hPl : tr_n t < (pg_P pg).length := by unfold pg_P; rw [List.length_map]; exact hf
    have hw := sp_work (k := tr_n t) (p := 120) (lim := 500) (l := (ca_a ps).map (fun a => tr_v a.1)) (cm_cb hX) (by unfold pg_P; rw [List.length_map]; omega) hPl (cm_cg hX h2.1) (by decide) rfl (by omega) (by rw [List.length_map, hla]; exact hl4) (fun i hi => by
      have hi2 : i < ps.length := by rw [List.length_map, hla] at hi; exact hi
      rw [← hS2, fr_ne (by omega), w1 i hi2 (hall i hi2), List.getElem_map]
      unfold mk_kn
      rw [ca_at hi2]
      exact congrArg (fun q : mk_R => tr_v q.1) (List.getElem_map _).symm)
    rw [cm_r1 hX h2.1, if_pos u0]
    rw [show (pg_P pg).getD (tr_n t) tr_z = (pg_P pg)[tr_n t] by rw [List.getD_eq_getElem?_getD, List.getElem?_eq_getElem hPl]; rfl]
    cases hq : ev (pg_P pg) 500 160 (ev_l ((ca_a ps).map (fun a => tr_v a.1))) 0 0 (pg_P pg)[tr_n t] with
    | error er =>
      cases er with
      | none => trivial
      | some er =>
        rw [hq] at hw
        obtain ⟨S3, k1, -, -, -, k5⟩ := hw
        have k1 : fn_Runner_work b (Int32.ofNat (tr_n t)) 120 500 S2 = some (er.1, S3) := k1
        have hne : ¬er.1 = 1 := by rcases ev_er _ _ _ _ _ _ hq with z | z <;> rw [z] <;> decide
        rw [k1, wd_c_s, if_neg hne]
        have h3 := cm_ho hX k5 (cm_cx hv) h2
        have n3 : ∀ p, nd_g (v + 2) p S2 S3 := cm_hn hX k5 (cm_cy hv)
        obtain ⟨S4, f4, G4⟩ := cm_lead (f := tr_n t) (s := (s.1, s.2.1, s.2.2.1 + 1, s.2.2.2)) hX h3 hcc (ca_g hcc (n3 _) ha2) (nd_trans hn (nd_trans (n1 _) (nd_trans (n2 _) (n3 _)))) hg hf hl (fun j q1 q2 => by rw [k5.1 121 j (by unfold cx_W; omega), o2'.1 121 j (by omega)]; exact w1 j q1 q2)
        unfold fn_Maker_becomeCall_155
        rw [f4, wd_d_s]
        exact ⟨c, c1, S4, rfl, G4⟩
    | ok q =>
      rw [hq] at hw
      obtain ⟨S3, k1, k2, -, -, k5⟩ := hw
      have k1 : fn_Runner_work b (Int32.ofNat (tr_n t)) 120 500 S2 = some (1, S3) := k1
      have h3 := cm_ho hX k5 (cm_cx hv) h2
      have n3 : ∀ p, nd_g (v + 2) p S2 S3 := cm_hn hX k5 (cm_cy hv)
      rw [k1, wd_c_s, if_pos rfl, h3.2.2.2.1, im_s]
      generalize hS4 : wd_i S3 115 10 (Int32.ofNat (s.2.2.2 + 1)) = S4
      have o4' : of_r (fun a k => a = 115 ∧ k = 10) cx_R S3 S4 := by rw [← hS4]; exact ofr_i ⟨rfl, rfl⟩ ofr_refl
      have n4 : ∀ p, nd_g (v + 2) p S3 S4 := cm_hn hX o4' (fun a k q => by omega)
      have h4 : cm_h b v pg S0 N (s.1, s.2.1, s.2.2.1 + 1, s.2.2.2 + 1) c1 S4 := by
        obtain ⟨a1, a2, a3, a4, a5, a6, a7, a8, a9⟩ := h3
        exact ⟨ofr_trans a1 ⟨fun a k q => o4'.1 a k (fun z => q (by unfold cm_W; omega)), fun a k q => o4'.2.1 a k (fun z => q (by unfold cm_W; omega)), o4'.2.2.1, o4'.2.2.2⟩, by rw [o4'.1 115 8 (by omega)]; exact a2, by rw [o4'.1 115 9 (by omega)]; exact a3, by rw [← hS4, fr_eq], by rw [o4'.1 (v + 2) 6 (by omega)]; exact a5, a6, a7, cm_oe o4' (fun k => by omega) a8, cm_ov (s := s) hv o4' (fun a k q => by omega) a9⟩
      rw [cm_r4 hX h4.1, if_pos t8]
      unfold fn_Runner_result
      rw [wd_c_s, o4'.1 104 11 (by omega), k2]
      obtain ⟨S5, f5, G5⟩ := cm_turn (r := r) (x := q.1) hX h4 hcc (nd_trans hn (nd_trans (n1 _) (nd_trans (n2 _) (nd_trans (n3 _) (n4 _))))) hg
      rw [f5, wd_d_s]
      exact ⟨c, c1, S5, rfl, G5⟩
  · rw [if_neg e, if_neg (show ¬Int32.ofNat (mk_ma (ca_a ps)) = Int32.ofNat (2 ^ pg_n pg (tr_n t) - 1) from fun z => e ((im_eq (by omega) (by omega)).mp z))]
    obtain ⟨S4, f4, G4⟩ := cm_lead (f := tr_n t) hX h1 hcc ha1 (nd_trans hn (n1 _)) hg hf hl w1
    unfold fn_Maker_becomeCall_155
    rw [f4, wd_d_s]
    exact ⟨c, c1, S4, rfl, G4⟩
theorem mk_b_b {α β γ : Type} (x : Except mk_E α) (f : α → Except mk_E β) (h : β → Except mk_E γ) : mk_b (mk_b x f) h = mk_b x (fun a => mk_b (f a) h) := by cases x <;> rfl
/-- the arguments, one by one -/
theorem cm_args (hX : cm_X b v pg S0) (hS : cm_S b v pg S0 r) (hr : r + 1 ≤ 96) (ht : nd_t (b + 1) S0 0 1500 d y t) (hf : tr_n t < pg.length) (hfv : tr_v t = Int32.ofNat (tr_n t)) (hl : tr_a t = pg_n pg (tr_n t)) : ∀ (r' j F : Nat) (ps : ca_T) (N : mk_N) (s : mk_S) (c1 : Nat) (S : wd_S), r' + j = tr_a t → ps.length = j → cm_h b v pg S0 N s c1 S → c < c1 → ca_h v r c c1 S 0 ps → nd_g (v + 2) (fun x => x < c) S9 S → c1 + g ≤ s.2.1 + c → cm_R b v pg S0 (r + 1) c g S9 (mk_b (mk_args (mk pg r) t r' j N s) fun q => mk_b (mk_call (pg_P pg) (tr_n t) (ca_a ps ++ q.1) q.2.2) fun w => .ok (w.1, q.2.1, w.2)) (fn_Maker_becomeCall_13 (rc_Maker_become (2 * r + 8)) (F + 1 + r') (Int32.ofNat y) (Int32.ofNat (96 - (r + 1))) (Int32.ofNat c) (Int32.ofNat j) S) := by
  obtain ⟨t9, t0, t8, gL, -⟩ := cm_vv hX
  obtain ⟨u0, u8, -⟩ := cm_bb hX
  have ha4 := hX.2.2.2.2.2.2.2.2 (tr_n t)
  intro r'
  induction r' with
  | zero =>
    intro j F ps N s c1 S hj hpl h hcc ha hn hg
    have hj : j = tr_a t := by omega
    show cm_R b v pg S0 (r + 1) c g S9 (mk_b (mk_call (pg_P pg) (tr_n t) (ca_a ps ++ []) s) fun w => .ok (w.1, N, w.2)) _
    rw [List.append_nil, Nat.add_zero, fn_Maker_becomeCall_13]
    have h63 := cm_63 (slf := rc_Maker_become (2 * r + 8)) hX h hcc ha hn hg ht hf hfv (by omega)
    split
    · rw [cm_r2 hX h.1, if_pos u8, (cm_node hX h.1 ht).2.2, wd_c_s, hj, if_neg Int32.lt_irrefl]
      exact h63
    · exact h63
  | succ r' ih =>
    intro j F ps N s c1 S hj hpl h hcc ha hn hg
    show cm_R b v pg S0 (r + 1) c g S9 (mk_b (mk_b (mk pg r N s (tr_sub t j)) fun q => mk_b (mk_args (mk pg r) t r' (j + 1) q.2.1 q.2.2) fun w => .ok (q.1 :: w.1, w.2)) _) (fn_Maker_becomeCall_13 (rc_Maker_become (2 * r + 8)) (F + 1 + r' + 1) (Int32.ofNat y) (Int32.ofNat (96 - (r + 1))) (Int32.ofNat c) (Int32.ofNat j) S)
    obtain ⟨x1, d1, f1, p1⟩ := cm_sub hX h.1 ht (j := j) (by omega) (by omega)
    rw [mk_b_b, fn_Maker_becomeCall_13, if_pos (show Int32.ofNat j < 4 from (im_lt (m := j) (n := 4) (by omega) (by omega)).mpr (by omega)), cm_r2 hX h.1, if_pos u8, (cm_node hX h.1 ht).2.2, wd_c_s, if_pos ((im_lt (by omega) (by omega)).mpr (by omega)), cm_r4 hX h.1, if_pos t8, cm_r2 hX h.1, if_pos u8, f1, wd_c_s, cm_96 hr]
    refine cm_bind (hS _ _ _ _ _ _ _ h p1) (fun q z1 c2 S1 hq G1 => ?_)
    obtain ⟨h1, i1, n1, w1, a1, a2, a3⟩ := G1
    obtain ⟨k1, k2, k3, k4⟩ := cm_nk w1
    have ha1 := ca_g hcc n1 ha
    obtain ⟨hl4, hps⟩ := ha1.2
    have hlz : (ca_z ps).length = ps.length := List.length_map _
    obtain ⟨e2, h2, g2, o2⟩ := cm_ap hX h1 (y := c) (z := z1) (show c < c2 by omega) (by omega) (by omega) (by rw [hlz]; omega) ha1.1 a1 a2
    rw [e2, wd_d_s, im_s, mk_b_b]
    have ez : ca_z ps ++ [z1] = ca_z (ps ++ [(z1, q.1)]) := by unfold ca_z; rw [List.map_append]; rfl
    have ea : ca_a (ps ++ [(z1, q.1)]) = ca_a ps ++ [q.1] := by unfold ca_a; rw [List.map_append]; rfl
    have ha2 : ca_h v r c c2 (fo_ap (v + 2) (Int32.ofNat c) (Int32.ofNat z1) S1) 0 (ps ++ [(z1, q.1)]) := by
      refine ⟨?_, by rw [List.length_append]; show ps.length + 1 ≤ 4; omega, fun p hp => ?_⟩
      · rw [← ez, ea, mk_sz_a, mk_lt_a, ← Nat.add_assoc]
        exact o2
      · rcases List.mem_append.mp hp with e | e
        · exact ⟨nd_t_r (Nat.le_refl _) (by omega) _ _ _ (nd_t_g (nd_mono (fun x hx => by omega) g2) _ _ _ (hps p e).1), (hps p e).2⟩
        · rw [List.mem_singleton.mp e]
          exact ⟨nd_t_r (by omega) (Nat.le_refl _) _ _ _ (nd_t_g (nd_mono (fun x hx => by omega) g2) _ _ _ w1), a3⟩
    have := ih (j + 1) F (ps ++ [(z1, q.1)]) q.2.1 q.2.2 c2 _ (by omega) (by rw [List.length_append]; show ps.length + 1 = j + 1; omega) h2 (by omega) ha2 (nd_trans hn (nd_trans (nd_mono (fun x hx => by omega) n1) (nd_mono (fun x hx => by omega) g2))) (by omega)
    rw [ea] at this
    have el : ∀ l : List mk_R, ca_a ps ++ [q.1] ++ l = ca_a ps ++ q.1 :: l := fun l => by rw [List.append_assoc]; rfl
    simp only [el] at this
    exact this
theorem cm_call (hX : cm_X b v pg S0) (hS : cm_S b v pg S0 r) (hr : r + 1 ≤ 96) (h : cm_h b v pg S0 N s c S) (hc : c < s.2.1) (ht : nd_t (b + 1) S0 0 1500 d y t) (hf : tr_n t < pg.length) (hfv : tr_v t = Int32.ofNat (tr_n t)) (hl : tr_a t = pg_n pg (tr_n t)) : cm_R b v pg S0 (r + 1) c (s.2.1 - 1) S (mk_ca pg (mk pg r) N s t) (fn_Maker_becomeCall (rc_Maker_become (2 * r + 8)) (Int32.ofNat y) (Int32.ofNat (96 - (r + 1))) S) := by
  obtain ⟨t9, t0, t8, gL, -⟩ := cm_vv hX
  have ha4 := hX.2.2.2.2.2.2.2.2 (tr_n t)
  obtain ⟨e1, h1, g1, o1⟩ := cm_op hX h hc (k := 5) (x := 0)
  unfold fn_Maker_becomeCall mk_ca
  rw [cm_r4 hX h.1, if_pos t8, e1, wd_c_s]
  rw [if_neg (by decide)] at o1
  have := cm_args (g := s.2.1 - 1) (S9 := S) hX hS hr ht hf hfv hl (tr_a t) 0 (999999 - tr_a t) [] N s (c + 1) _ rfl rfl h1 (Nat.lt_succ_self c) ⟨o1, by decide, fun p hp => absurd hp List.not_mem_nil⟩ (nd_mono (fun x hx => by omega) g1) (by omega)
  rw [show 999999 - tr_a t + 1 + tr_a t = wd_F by rw [show wd_F = 1000000 from rfl]; omega] at this
  exact this
end Cm6
end
/-! part b08 -/
section
/-! The class's maker: what becomes of any EXPRESSION. -/
section Cm7
variable {b v : Nat} {pg : pg_T} {S0 S S' S1 S2 S9 : wd_S} {N N' : mk_N} {s s' : mk_S} {c c1 c' y z d r g n f k : Nat} {t : tr_T}
theorem cm_up (hX : cm_X b v pg S0) (h : cm_h b v pg S0 N s c S) (hg : ¬1000 ≤ s.2.1) : cm_h b v pg S0 N (s.1, s.2.1 + 1, s.2.2) c (wd_i S 115 8 (Int32.ofNat (s.2.1 + 1))) ∧ ∀ p, nd_g (v + 2) p S (wd_i S 115 8 (Int32.ofNat (s.2.1 + 1))) := by
  have hv := hX.2.1
  have o : of_r (fun a k => a = 115 ∧ k = 8) cx_R S (wd_i S 115 8 (Int32.ofNat (s.2.1 + 1))) := ofr_i ⟨rfl, rfl⟩ ofr_refl
  obtain ⟨a1, a2, a3, a4, a5, a6, a7, a8, a9⟩ := h
  refine ⟨⟨ofr_trans a1 ⟨fun a k q => o.1 a k (fun z => q (by unfold cm_W; omega)), fun a k q => o.2.1 a k (fun z => q (by unfold cm_W; omega)), o.2.2.1, o.2.2.2⟩, fr_eq, by rw [fr_ne (by omega)]; exact a3, by rw [fr_ne (by omega)]; exact a4, by rw [fr_ne (by omega)]; exact a5, by show c ≤ s.2.1 + 1; omega, by show s.2.1 + 1 ≤ 1000; omega, cm_oe o (fun k => by omega) a8, cm_ov (s := s) hv o (fun a k q => by omega) a9⟩, cm_hn hX o (fun a k q => by omega)⟩
theorem rc_93 {n : Nat} {a e : Int32} : rc_Maker_become (n + 1) 93 a e S = fn_Maker_become (rc_Maker_become n) a e S := by rw [rc_Maker_become, if_pos rfl]
theorem rc_94 {n : Nat} {a e : Int32} : rc_Maker_become (n + 1) 94 a e S = fn_Maker_becomeLet (rc_Maker_become n) a e S := by rw [rc_Maker_become, if_neg (by decide), if_pos rfl]
theorem rc_97 {n : Nat} {a e : Int32} : rc_Maker_become (n + 1) 97 a e S = fn_Maker_becomeIf (rc_Maker_become n) a e S := by rw [rc_Maker_become, if_neg (by decide), if_neg (by decide), if_pos rfl]
theorem rc_98 {n : Nat} {a e : Int32} : rc_Maker_become (n + 1) 98 a e S = fn_Maker_becomeCall (rc_Maker_become n) a e S := by rw [rc_Maker_become, if_neg (by decide), if_neg (by decide), if_neg (by decide), if_pos rfl]
theorem rc_115 {n : Nat} {a e : Int32} : rc_Maker_become (n + 1) 115 a e S = fn_Maker_becomeSign (rc_Maker_become n) a e S := by rw [rc_Maker_become, if_neg (by decide), if_neg (by decide), if_neg (by decide), if_neg (by decide), if_pos rfl]
theorem cm_s (hX : cm_X b v pg S0) (hS : cm_S b v pg S0 r) (hr : r + 1 ≤ 96) : cm_S b v pg S0 (r + 1) := by
  intro N s c y t d S h ht
  obtain ⟨t9, t0, t8, gL, -⟩ := cm_vv hX
  obtain ⟨u0, u8, -⟩ := cm_bb hX
  have h6 := h.2.2.2.2.2.1
  have h7 := h.2.2.2.2.2.2.1
  show cm_R b v pg S0 (r + 1) c s.2.1 S (if 1000 ≤ s.2.1 then .error (some ()) else mk_in pg (mk pg r) N (s.1, s.2.1 + 1, s.2.2) t) _
  rw [show 2 * (r + 1) + 8 = 2 * r + 8 + 1 + 1 by omega, rc_93]
  unfold fn_Maker_become fn_Maker_become_16
  rw [h.2.1]
  by_cases hg : 1000 ≤ s.2.1
  · rw [if_pos hg, if_neg (show ¬Int32.ofNat s.2.1 < 1000 from fun q => by have := (im_lt (m := s.2.1) (n := 1000) (by omega) (by omega)).mp q; omega)]
    exact ⟨S, rfl, h.1⟩
  · rw [if_neg hg, if_pos (show Int32.ofNat s.2.1 < 1000 from (im_lt (m := s.2.1) (n := 1000) (by omega) (by omega)).mpr (by omega)), if_pos (show Int32.ofNat (96 - (r + 1)) < 96 from (im_lt (m := 96 - (r + 1)) (n := 96) (by omega) (by omega)).mpr (by omega))]
    simp only [wd_b]
    rw [im_s]
    obtain ⟨h1, n1⟩ := cm_up hX h hg
    generalize wd_i S 115 8 (Int32.ofNat (s.2.1 + 1)) = S1 at *
    have hc : c < ((s.1, s.2.1 + 1, s.2.2) : mk_S).2.1 := by show c < s.2.1 + 1; omega
    rw [cm_r2 hX h1.1, if_pos u8, (cm_node hX h1.1 ht).1, wd_c_s]
    unfold mk_in
    by_cases ok : ev_ok pg.length t
    · rw [if_pos ok]
      have fin : ∀ x o, cm_R b v pg S0 (r + 1) c ((s.2.1 + 1) - 1) S1 x o → cm_R b v pg S0 (r + 1) c s.2.1 S x o := fun x o q => cm_mono q (n1 _) (Nat.le_refl _) (Nat.le_refl _) (by omega)
      by_cases k1 : tr_k t = 1
      · rw [if_pos k1, if_pos k1, cm_r4 hX h1.1, if_pos t8, cm_r2 hX h1.1, if_pos u8, (cm_node hX h1.1 ht).2.1, wd_c_s]
        obtain ⟨S2, f2, G2⟩ := cm_leaf (r := r) hX h1 hc (g := s.2.1) (k := 1) (x := tr_v t) (Nat.le_refl _) (by decide) (n1 (fun x => x < c)) (Nat.le_refl _) (by show c + 1 + s.2.1 ≤ s.2.1 + 1 + c; omega)
        rw [f2, wd_c_s]
        exact ⟨c, c + 1, S2, rfl, G2⟩
      · rw [if_neg k1, if_neg k1]
        by_cases k2 : tr_k t = 2
        · have hn : tr_v t = Int32.ofNat (tr_n t) ∧ tr_n t < 16 := by
            rcases ok with q | ⟨-, q1, q2⟩ | ⟨q, -⟩ | ⟨q, -⟩ | ⟨q, -⟩ | ⟨q | q | q | q | q, -⟩
            · exact absurd q k1
            · exact ⟨q1, q2⟩
            all_goals (rw [k2] at q; exact absurd q (by decide))
          rw [if_pos k2, if_pos k2, cm_r2 hX h1.1, if_pos u8, (cm_node hX h1.1 ht).2.1, wd_c_s, cm_r4 hX h1.1, if_pos t8, ro_at_ok, wd_c_s, hn.1, ro_an cm_117 hn.2]
          cases hN : N (tr_n t) with
          | none => trivial
          | some q =>
            obtain ⟨m1, m2, m3⟩ := h1.2.2.2.2.2.2.2.1 (tr_n t) q hN
            unfold fn_Maker_become_127
            rw [ro_at_ok, wd_c_s, ro_an cm_119 hn.2, m2, m3]
            unfold mk_name
            cases hb : q.1 with
            | true =>
              rw [if_pos (rfl : true = true), if_pos (rfl : (1 : Int32) = 1)]
              dsimp only
              rw [if_pos hb]
              obtain ⟨S2, f2, G2⟩ := cm_leaf (r := r) hX h1 hc (g := s.2.1) (k := 1) (x := q.2) (Nat.le_refl _) (by decide) (n1 (fun x => x < c)) (Nat.le_refl _) (by show c + 1 + s.2.1 ≤ s.2.1 + 1 + c; omega)
              rw [f2, wd_c_s]
              exact ⟨c, c + 1, S2, rfl, G2⟩
            | false =>
              rw [if_neg (show ¬false = true by decide), if_neg (show ¬(0 : Int32) = 1 by decide), wd_c_s]
              dsimp only
              rw [if_neg (show ¬q.1 = true by rw [hb]; decide)]
              obtain ⟨S2, f2, G2⟩ := cm_leaf (r := r) hX h1 hc (g := s.2.1) (k := 2) (x := q.2) (Nat.le_refl _) (by decide) (n1 (fun x => x < c)) (Nat.le_refl _) (by show c + 1 + s.2.1 ≤ s.2.1 + 1 + c; omega)
              rw [f2, wd_c_s]
              exact ⟨c, c + 1, S2, rfl, G2⟩
        · rw [if_neg k2, if_neg k2]
          by_cases k3 : tr_k t = 3
          · have hn : tr_v t = Int32.ofNat (tr_n t) ∧ tr_n t < 16 ∧ tr_a t = 2 := by
              rcases ok with q | ⟨q, -⟩ | ⟨-, q1, q2, q3⟩ | ⟨q, -⟩ | ⟨q, -⟩ | ⟨q | q | q | q | q, -⟩
              · exact absurd q k1
              · exact absurd q k2
              · exact ⟨q1, q2, q3⟩
              all_goals (rw [k3] at q; exact absurd q (by decide))
            rw [if_pos k3, if_pos k3, rc_94]
            exact fin _ _ (cm_K (cm_let hX hS hr h1 hc ht hn.2.2 hn.1 hn.2.1))
          · rw [if_neg k3, if_neg k3]
            by_cases k4 : tr_k t = 4
            · have hn : tr_a t = 3 := by
                rcases ok with q | ⟨q, -⟩ | ⟨q, -⟩ | ⟨-, q1⟩ | ⟨q, -⟩ | ⟨q | q | q | q | q, -⟩
                · exact absurd q k1
                · exact absurd q k2
                · exact absurd q k3
                · exact q1
                all_goals (rw [k4] at q; exact absurd q (by decide))
              rw [if_pos k4, if_pos k4, rc_97]
              exact fin _ _ (cm_K (cm_if hX hS hr h1 hc ht hn))
            · rw [if_neg k4, if_neg k4]
              by_cases k5 : tr_k t = 5
              · have hn : tr_v t = Int32.ofNat (tr_n t) ∧ tr_n t < pg.length := by
                  rcases ok with q | ⟨q, -⟩ | ⟨q, -⟩ | ⟨q, -⟩ | ⟨-, -, q1, q2⟩ | ⟨q | q | q | q | q, -⟩
                  · exact absurd q k1
                  · exact absurd q k2
                  · exact absurd q k3
                  · exact absurd q k4
                  · exact ⟨q1, q2⟩
                  all_goals (rw [k5] at q; exact absurd q (by decide))
                rw [if_pos k5, if_pos k5, rc_98]
                by_cases hl : tr_a t = pg_n pg (tr_n t)
                · rw [if_pos hl]
                  exact fin _ _ (cm_K (cm_call hX hS hr h1 hc ht hn.2 hn.1 hl))
                · rw [if_neg hl]
                  trivial
              · have hn : (tr_k t = 6 ∨ tr_k t = 7 ∨ tr_k t = 8 ∨ tr_k t = 9 ∨ tr_k t = 10) ∧ tr_a t = 2 := by
                  rcases ok with q | ⟨q, -⟩ | ⟨q, -⟩ | ⟨q, -⟩ | ⟨q, -⟩ | q
                  · exact absurd q k1
                  · exact absurd q k2
                  · exact absurd q k3
                  · exact absurd q k4
                  · exact absurd q k5
                  · exact q
                rw [if_neg k5, if_neg k5, rc_115]
                exact fin _ _ (cm_K (cm_sign hX hS hr h1 hc ht hn.1 hn.2))
    · rw [if_neg ok]
      trivial
theorem cm_all (hX : cm_X b v pg S0) : ∀ r, r ≤ 96 → cm_S b v pg S0 r := by
  intro r
  induction r with
  | zero => intro _ N s c y t d S h ht; trivial
  | succ r ih => intro hr; exact cm_s hX (ih (by omega)) hr
/-- less is known of names -/
theorem cm_less (hN : ∀ i q, N' i = some q → N i = some q) (h : cm_h b v pg S0 N s c S) : cm_h b v pg S0 N' s c S := by
  obtain ⟨a1, a2, a3, a4, a5, a6, a7, a8, a9⟩ := h
  exact ⟨a1, a2, a3, a4, a5, a6, a7, fun i q hi => a8 i q (hN i q hi), a9⟩
/-- a version's PARAMS get their meanings -/
theorem cm_bp (hX : cm_X b v pg S0) (hk : k < s.1.length) : ∀ (r i F : Nat) (N : mk_N) (S : wd_S), i + r = pg_n pg s.1[k].1 → cm_h b v pg S0 N s c S → (∀ j, j < i → N j = mk_e (pg_n pg s.1[k].1) s.1[k] j) → ∃ S', fn_Maker_bindParams_4 (F + 1 + r) (Int32.ofNat k) (Int32.ofNat (mk_lf s.1[k].2.1 i)) (Int32.ofNat i) S = some S' ∧ cm_h b v pg S0 (mk_e (pg_n pg s.1[k].1) s.1[k]) s c S' ∧ nd_g (v + 2) (fun x => x < c) S S' := by
  obtain ⟨t9, t0, t8, gL, z16, z18, z20, z22, z24⟩ := cm_vv hX
  obtain ⟨u0, u8, uL, u15, u17⟩ := cm_bb hX
  have hpl := hX.2.2.2.2.2.2.2.1
  have hpn := hX.2.2.2.2.2.2.2.2 s.1[k].1
  intro r
  induction r with
  | zero =>
    intro i F N S hi h hN
    have hlv := mk_ok_len h.2.2.2.2.2.2.2.2.2.1
    obtain ⟨a1, a2, a3, a4⟩ := h.2.2.2.2.2.2.2.2.2.2 k hk
    obtain ⟨b1, b2⟩ := h.2.2.2.2.2.2.2.2.2.1.1 s.1[k] (List.getElem_mem hk)
    have hi : i = pg_n pg s.1[k].1 := hi
    refine ⟨S, ?_, cm_less (fun j q hj => ?_) h, nd_refl⟩
    · rw [Nat.add_zero, fn_Maker_bindParams_4, cm_r1 hX h.1, if_pos u0, cm_r3 hX h.1, if_pos t9]
      unfold fn_Versions_functionOf
      rw [ro_at_ok, wd_c_s, wd_c_s, ro_an (r := v + 19) z20 (show k < 78 by omega), show S.1 (v + 19 + 1) k = Int32.ofNat s.1[k].1 from a1, fo_params, wd_c_s, ro_an (r := b + 16) u17 (show s.1[k].1 < 48 by omega), show S.1 (b + 16 + 1) s.1[k].1 = Int32.ofNat (pg_n pg s.1[k].1) from cm_pn hX h.1 b1, hi, if_neg Int32.lt_irrefl]
    · have : j < i := by
        unfold mk_e at hj
        split at hj
        · omega
        · cases hj
      rw [hN j this]
      exact hj
  | succ r ih =>
    intro i F N S hi h hN
    have hlv := mk_ok_len h.2.2.2.2.2.2.2.2.2.1
    obtain ⟨a1, a2, a3, a4⟩ := h.2.2.2.2.2.2.2.2.2.2 k hk
    obtain ⟨b1, b2⟩ := h.2.2.2.2.2.2.2.2.2.1.1 s.1[k] (List.getElem_mem hk)
    have hp16 : 2 ^ pg_n pg s.1[k].1 ≤ 2 ^ 4 := Nat.pow_le_pow_right (by decide) hpn
    show ∃ S', fn_Maker_bindParams_4 (F + 1 + r + 1) (Int32.ofNat k) (Int32.ofNat (mk_lf s.1[k].2.1 i)) (Int32.ofNat i) S = some S' ∧ _
    rw [fn_Maker_bindParams_4, cm_r1 hX h.1, if_pos u0, cm_r3 hX h.1, if_pos t9]
    unfold fn_Versions_functionOf fn_Versions_mask fn_Versions_number fn_Maker_bindParams_66
    rw [ro_at_ok, wd_c_s, wd_c_s, ro_an (r := v + 19) z20 (show k < 78 by omega), show S.1 (v + 19 + 1) k = Int32.ofNat s.1[k].1 from a1, fo_params, wd_c_s, ro_an (r := b + 16) u17 (show s.1[k].1 < 48 by omega), show S.1 (b + 16 + 1) s.1[k].1 = Int32.ofNat (pg_n pg s.1[k].1) from cm_pn hX h.1 b1, if_pos ((im_lt (by omega) (by omega)).mpr (by omega)), cm_r3 hX h.1, if_pos t9, ro_at_ok, wd_c_s, wd_c_s, ro_an (r := v + 21) z22 (show k < 78 by omega), show S.1 (v + 21 + 1) k = Int32.ofNat s.1[k].2.1 from a2, cv_in (show s.1[k].2.1 < 16 by omega) (show i < 4 by omega), wd_c_s]
    have eN : mk_e (pg_n pg s.1[k].1) s.1[k] i = some (if mk_bt s.1[k].2.1 i = true then (true, s.1[k].2.2 i) else (false, Int32.ofNat (mk_lf s.1[k].2.1 i))) := if_pos (by omega)
    cases hb : mk_bt s.1[k].2.1 i with
    | false =>
      rw [hb, if_neg (show ¬false = true by decide)] at eN
      rw [if_neg (show ¬false = true by decide), if_pos rfl]
      obtain ⟨S1, f1, h1, g1⟩ := cm_bd hX h (n := i) (by omega) (e := false) (x := Int32.ofNat (mk_lf s.1[k].2.1 i))
      rw [if_neg (show ¬false = true by decide)] at f1
      rw [f1, wd_d_s, im_s, im_s]
      obtain ⟨S2, f2, h2, g2⟩ := ih (i + 1) F _ S1 (by omega) h1 (fun j hj => by
        unfold mk_u
        by_cases e : j = i
        · rw [if_pos e, e, eN]
        · rw [if_neg e]; exact hN j (by omega))
      have el : mk_lf s.1[k].2.1 (i + 1) = mk_lf s.1[k].2.1 i + 1 := by
        show mk_lf s.1[k].2.1 i + (if mk_bt s.1[k].2.1 i = true then 0 else 1) = _
        rw [hb, if_neg (show ¬false = true by decide)]
      rw [el] at f2
      exact ⟨S2, f2, h2, nd_trans (g1 _) g2⟩
    | true =>
      rw [hb, if_pos rfl] at eN
      rw [if_pos (rfl : true = true), if_neg (show ¬(1 : Int32) = 0 by decide), cm_r3 hX h.1, if_pos t9, ro_at_ok, wd_c_s, wd_c_s, show Int32.ofNat k * 4 + Int32.ofNat i = Int32.ofNat (4 * k + i) by rw [show (4 : Int32) = Int32.ofNat 4 from rfl, im_ma, Nat.mul_comm], ro_an (r := v + 23) z24 (show 4 * k + i < 312 by omega), show S.1 (v + 23 + 1) (4 * k + i) = s.1[k].2.2 i from a4 i (by omega)]
      obtain ⟨S1, f1, h1, g1⟩ := cm_bd hX h (n := i) (by omega) (e := true) (x := s.1[k].2.2 i)
      rw [if_pos rfl] at f1
      rw [f1, wd_d_s, im_s]
      obtain ⟨S2, f2, h2, g2⟩ := ih (i + 1) F _ S1 (by omega) h1 (fun j hj => by
        unfold mk_u
        by_cases e : j = i
        · rw [if_pos e, e, eN]
        · rw [if_neg e]; exact hN j (by omega))
      have el : mk_lf s.1[k].2.1 (i + 1) = mk_lf s.1[k].2.1 i := by
        show mk_lf s.1[k].2.1 i + (if mk_bt s.1[k].2.1 i = true then 0 else 1) = _
        rw [hb, if_pos rfl]
        rfl
      rw [el] at f2
      exact ⟨S2, f2, h2, nd_trans (g1 _) g2⟩
end Cm7
end
