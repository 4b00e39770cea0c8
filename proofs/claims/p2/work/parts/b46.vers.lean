/-! version(): both sides. -/
def ve (ds : pg_T) (vs : List mk_V) (p q : Int32) : Option Int32 := if p < 0 ∨ ¬p < Int32.ofNat ds.length then none else if q < 0 ∨ 9 < q then none else some (if q = 0 then Int32.ofNat (vs.getD p.toNatClampNeg (0, 0, fun _ => 0)).1 else if q = 1 then Int32.ofNat (vs.getD p.toNatClampNeg (0, 0, fun _ => 0)).2.1 else if q = 2 then Int32.ofNat (ds.getD p.toNatClampNeg (0, tr_z, 0, 0)).1 else if q = 3 then Int32.ofNat (ds.getD p.toNatClampNeg (0, tr_z, 0, 0)).2.2.1 else if q = 4 then Int32.ofNat (ds.getD p.toNatClampNeg (0, tr_z, 0, 0)).2.2.2 else if q = 5 then (if tr_k (ds.getD p.toNatClampNeg (0, tr_z, 0, 0)).2.1 = 1 then 1 else 0) else (vs.getD p.toNatClampNeg (0, 0, fun _ => 0)).2.2 (q - 6).toNatClampNeg)
def vc_P (v : Nat) (pg ds : pg_T) (vs : List mk_V) (S : wd_S) : Prop := (v = 54 ∨ v = 79) ∧ ds.length = vs.length ∧ vs.length ≤ 78 ∧ cm_v v pg vs S ∧ cf_D v 1000 ds S ∧ ∀ j, (hj : j < ds.length) → ds[j].1 = mk_ar pg vs j
def vm_P (h B : Nat) (pg ds : pg_T) (vs : List mk_V) (S : wd_S) : Prop := B ≤ 1 ∧ h ≤ 1 ∧ S.1 135 63 = Int32.ofNat B ∧ S.1 135 59 = Int32.ofNat ds.length ∧ ds.length = vs.length ∧ vs.length ≤ 78 ∧ (∀ j, (hj : j < vs.length) → vs[j].1 < 48 ∧ S.1 159 (80 * B + j) = Int32.ofNat (48 * h + vs[j].1) ∧ S.1 160 (80 * B + j) = Int32.ofNat vs[j].2.1 ∧ ∀ i, i < 4 → S.1 161 (4 * (80 * B + j) + i) = vs[j].2.2 i) ∧ md_D B 1000 1000 ds S ∧ pw_P B ds S
section Vr
variable {v h B : Nat} {pg ds : pg_T} {vs : List mk_V} {S : wd_S} {p q : Int32}
theorem mk_ar_g {j : Nat} (hj : j < vs.length) : mk_ar pg vs j = mk_lf vs[j].2.1 (pg_n pg vs[j].1) := by
  unfold mk_ar
  rw [List.getElem?_eq_getElem hj]
theorem vr_q (h1 : ¬q < 0) (h2 : ¬9 < q) (n0 : ¬q = 0) (n1 : ¬q = 1) (n2 : ¬q = 2) (n3 : ¬q = 3) (n4 : ¬q = 4) (n5 : ¬q = 5) : ∃ i, i < 4 ∧ q = Int32.ofNat (i + 6) ∧ q - 6 = Int32.ofNat i := by
  have e := im_of h1
  have hl := im_tl q
  have h9 : q.toNatClampNeg ≤ 9 := by
    have : ¬9 < q.toNatClampNeg := fun z => h2 (by
      rw [← e]
      exact (im_lt (m := 9) (by omega) hl).mpr z)
    omega
  have ne : ∀ k, ¬q = Int32.ofNat k → ¬q.toNatClampNeg = k := fun k z w => z (by rw [← e, w])
  have := ne 0 n0
  have := ne 1 n1
  have := ne 2 n2
  have := ne 3 n3
  have := ne 4 n4
  have := ne 5 n5
  obtain ⟨i, hi⟩ : ∃ i, q.toNatClampNeg = i + 6 := ⟨q.toNatClampNeg - 6, by omega⟩
  refine ⟨i, by omega, by rw [← hi, e], ?_⟩
  rw [← e, hi, show (6 : Int32) = Int32.ofNat 6 from rfl, im_sb]
theorem sp_version (h7 : S.2.2.1 1 7 = v) (hP : vc_P v pg ds vs S) : fn_Sp_version p q S = match ve ds vs p q with
    | none => some (.inr "java/lang/IndexOutOfBoundsException", wd_n S)
    | some x => some (.inl x, S) := by
  obtain ⟨hv, hl, h78, hc, hD, har⟩ := hP
  obtain ⟨c1, -, c3⟩ := hc
  have t9 : tp_t v = (0, 9) := by rcases hv with z | z <;> rw [z] <;> rfl
  have t0 : tp_t (v + 1) = (0, 0) := by rcases hv with z | z <;> rw [z] <;> rfl
  have t8 : tp_t (v + 1 + 1) = (0, 8) := by rcases hv with z | z <;> rw [z] <;> rfl
  have t18 : (tp_t (v + 1 + 16 + 1)).2 = 78 := by rcases hv with z | z <;> rw [z] <;> rfl
  have t16 : (tp_t (v + 1 + 14 + 1)).2 = 78 := by rcases hv with z | z <;> rw [z] <;> rfl
  have t20 : (tp_t (v + 19 + 1)).2 = 78 := by rcases hv with z | z <;> rw [z] <;> rfl
  have t22 : (tp_t (v + 21 + 1)).2 = 78 := by rcases hv with z | z <;> rw [z] <;> rfl
  have t24 : (tp_t (v + 23 + 1)).2 = 312 := by rcases hv with z | z <;> rw [z] <;> rfl
  have k2 : (tp_t (v + 1 + 1 + 1 + 1)).2 = 1000 := by rcases hv with z | z <;> rw [z] <;> rfl
  have k10 : (tp_t (v + 1 + 1 + 9 + 1)).2 = 1000 := by rcases hv with z | z <;> rw [z] <;> rfl
  have k12 : (tp_t (v + 1 + 1 + 11 + 1)).2 = 1000 := by rcases hv with z | z <;> rw [z] <;> rfl
  unfold ve fn_Sp_version fn_Versions_bodies fn_Sp_version_24
  rw [h7, if_pos t9, wd_c_s, if_pos t0, fo_has, wd_c_s, c1, ← hl]
  by_cases h1 : p < 0 ∨ ¬p < Int32.ofNat ds.length
  · rw [if_pos h1, if_pos h1, if_pos rfl]
  · rw [if_neg h1, if_neg h1, if_neg (show ¬(1 : Int32) = 0 by decide)]
    obtain ⟨f, f1, f2, f3⟩ := lk_p (by omega) h1
    have fv : f < vs.length := by omega
    obtain ⟨a1, a2, a3, a4⟩ := c3 f fv
    obtain ⟨y, d1, d2, d3, d4⟩ := hD f f1
    have hy := nd_t_l d2
    have ekd : S.1 (v + 2 + 2) y = tr_k ds[f].2.1 := d2.2.2.1
    by_cases h2 : q < 0
    · rw [if_pos (Or.inl h2), if_pos h2]
    · by_cases h3 : 9 < q
      · rw [if_pos (Or.inr h3), if_neg h2, if_pos h3]
      · rw [if_neg (show ¬(q < 0 ∨ 9 < q) from fun z => z.elim h2 h3), if_neg h2, if_neg h3, f3, List.getD_eq_getElem?_getD, List.getElem?_eq_getElem fv, Option.getD_some, List.getD_eq_getElem?_getD, List.getElem?_eq_getElem f1, Option.getD_some]
        by_cases n0 : q = 0
        · rw [if_pos n0, if_pos n0, h7, if_pos t9]
          unfold fn_Versions_functionOf
          rw [ro_at_ok, wd_c_s, wd_c_s, f2, ro_an t20 (show f < 78 by omega), show v + 19 + 1 = v + 20 from rfl, a1]
        · rw [if_neg n0, if_neg n0]
          by_cases n1 : q = 1
          · rw [if_pos n1, if_pos n1, h7, if_pos t9]
            unfold fn_Versions_mask
            rw [ro_at_ok, wd_c_s, wd_c_s, f2, ro_an t22 (show f < 78 by omega), show v + 21 + 1 = v + 22 from rfl, a2]
          · rw [if_neg n1, if_neg n1]
            by_cases n2 : q = 2
            · rw [if_pos n2, if_pos n2, h7, if_pos t9, wd_c_s, if_pos t0, fo_params, wd_c_s, f2, ro_an t18 (show f < 78 by omega), show v + 1 + 16 + 1 = v + 18 from rfl, a3, har f f1, mk_ar_g fv]
            · rw [if_neg n2, if_neg n2]
              by_cases n3 : q = 3
              · rw [if_pos n3, if_pos n3, h7, if_pos t9, wd_c_s, if_pos t0]
                unfold fn_Bodies_expressions
                rw [fo_root, wd_c_s, f2, ro_an t16 (show f < 78 by omega), show v + 1 + 14 + 1 = v + 16 from rfl, d1, fo_tsize, wd_c_s, ro_an k10 hy, show v + 1 + 1 + 9 + 1 = v + 2 + 10 from rfl, d3, wd_c_s]
              · rw [if_neg n3, if_neg n3]
                by_cases n4 : q = 4
                · rw [if_pos n4, if_pos n4, h7, if_pos t9, wd_c_s, if_pos t0]
                  unfold fn_Bodies_lets
                  rw [fo_root, wd_c_s, f2, ro_an t16 (show f < 78 by omega), show v + 1 + 14 + 1 = v + 16 from rfl, d1, fo_tlets, wd_c_s, ro_an k12 hy, show v + 1 + 1 + 11 + 1 = v + 2 + 12 from rfl, d4, wd_c_s]
                · rw [if_neg n4, if_neg n4]
                  by_cases n5 : q = 5
                  · rw [if_pos n5, if_pos n5, h7, if_pos t9]
                    unfold fn_Versions_isNumber fn_Bodies_trees fn_Versions_isNumber_27 fn_Sp_version_142
                    rw [wd_c_s, if_pos t8, fo_root, wd_c_s, f2, ro_an t16 (show f < 78 by omega), show v + 1 + 14 + 1 = v + 16 from rfl, d1, fo_tkind, wd_c_s, ro_an k2 hy, show v + 1 + 1 + 1 + 1 = v + 2 + 2 from rfl, ekd]
                    by_cases hk : tr_k ds[f].2.1 = 1
                    · rw [if_pos hk, if_pos hk, if_pos fo_b1, wd_c_s, if_neg (show ¬(1 : Int32) = 0 by decide)]
                    · rw [if_neg hk, if_neg hk, if_pos fo_b0, wd_c_s, if_pos rfl]
                  · rw [if_neg n5, if_neg n5, h7, if_pos t9]
                    obtain ⟨i, i1, i2, i3⟩ := vr_q h2 h3 n0 n1 n2 n3 n4 n5
                    unfold fn_Versions_number
                    have e4 : p * 4 + (q - 6) = Int32.ofNat (4 * f + i) := by
                      rw [f2, i3, show (4 : Int32) = Int32.ofNat 4 from rfl, im_ma, Nat.mul_comm]
                    rw [e4, ro_at_ok, wd_c_s, wd_c_s, ro_an t24 (show 4 * f + i < 312 by omega), show v + 23 + 1 = v + 24 from rfl, a4 i i1, i3, im_t (show i < 2147483648 by omega)]
theorem mo_version (hP : vm_P h B pg ds vs S) : fn_Mo_version p q S = match ve ds vs p q with
    | none => some (0, wd_i S 135 0 1)
    | some x => some (x, wd_i S 135 0 0) := by
  obtain ⟨hB, hh, h63, h59, hl, h78, hv, hD, hw⟩ := hP
  have e1 : fn_Mo_version_33 p q S = some (0, wd_i S 135 0 1) := by
    unfold fn_Mo_version_33 fn_Mo_version_34
    simp only [wd_b]
    rw [fr_eq, if_pos (show (0 : Int32) < 1 by decide)]
  have hin : fn_Mo_within p.toInt64 0 ((Int32.ofNat ds.length - 1).toInt64) S = some (if p < 0 ∨ ¬p < Int32.ofNat ds.length then 0 else 1, S) := by
    have := sm_in (p := p) (S := S) 0 (Int32.ofNat ds.length - 1)
    have e : (p < 0 ∨ Int32.ofNat ds.length - 1 < p) ↔ (p < 0 ∨ ¬p < Int32.ofNat ds.length) := by
      by_cases w : p < 0
      · exact ⟨fun _ => Or.inl w, fun _ => Or.inl w⟩
      · have ht := im_tl p
        by_cases hz : ds.length = 0
        · refine ⟨fun _ => Or.inr (fun z => ?_), fun _ => Or.inr ?_⟩
          · rw [hz] at z
            exact w z
          · rw [hz, ← im_of w]
            have e1 : Int32.ofNat 0 - 1 = -1 := by decide
            rw [e1, Int32.lt_iff_toInt_lt, im_i ht]
            show (-1 : Int) < _
            omega
        · obtain ⟨n, hn⟩ : ∃ n, ds.length = n + 1 := ⟨ds.length - 1, by omega⟩
          rw [hn, im_p, ← im_of w]
          constructor
          · intro z
            refine z.elim Or.inl (fun z => Or.inr (fun w => ?_))
            have := (im_lt (by omega) ht).mp z
            have := (im_lt ht (by omega)).mp w
            omega
          · intro z
            refine z.elim Or.inl (fun z => Or.inr ((im_lt (by omega) ht).mpr ?_))
            have : ¬p.toNatClampNeg < n + 1 := fun w => z ((im_lt ht (by omega)).mpr w)
            omega
    have e2 : (if p < 0 ∨ Int32.ofNat ds.length - 1 < p then (0 : Int32) else 1) = if p < 0 ∨ ¬p < Int32.ofNat ds.length then 0 else 1 := by
      by_cases w : p < 0 ∨ ¬p < Int32.ofNat ds.length
      · rw [if_pos w, if_pos (e.mpr w)]
      · rw [if_neg w, if_neg (fun z => w (e.mp z))]
    rw [e2] at this
    exact this
  have hin9 : fn_Mo_within q.toInt64 0 9 S = some (if q < 0 ∨ 9 < q then 0 else 1, S) := sm_in (p := q) (S := S) 0 9
  unfold ve fn_Mo_version
  rw [h59, hin, wd_c_s]
  by_cases h1 : p < 0 ∨ ¬p < Int32.ofNat ds.length
  · rw [if_pos h1, if_pos h1, if_pos rfl]
    exact e1
  · rw [if_neg h1, if_neg h1, if_neg (show ¬(1 : Int32) = 0 by decide), hin9, wd_c_s]
    by_cases h2 : q < 0 ∨ 9 < q
    · rw [if_pos h2, if_pos h2, if_pos rfl]
      exact e1
    · rw [if_neg h2, if_neg h2, if_neg (show ¬(1 : Int32) = 0 by decide)]
      obtain ⟨f, f1, f2, f3⟩ := lk_p (by omega) h1
      have fv : f < vs.length := by omega
      obtain ⟨a0, a1, a2, a3⟩ := hv f fv
      obtain ⟨y, d1, d2, d3, d4⟩ := hD f f1
      obtain ⟨-, ⟨g, m, np, b1, b2, b3, b4, b5, b6, b7⟩, -⟩ := hw.2.2.2.2 f f1
      have e80 : (80 : Int32) * Int32.ofNat B + Int32.ofNat f = Int32.ofNat (80 * B + f) := by rw [show (80 : Int32) = Int32.ofNat 80 from rfl, im_ma]
      have hR : ∀ a k, ¬(a = 135 ∧ k = 0) → (wd_i S 135 0 0).1 a k = S.1 a k := fun a k z => fr_ne z
      have hx : 80 * B + f < 160 := by omega
      unfold fn_Mo_version_34 fn_Mo_version_153
      simp only [wd_b]
      rw [fr_eq, if_neg (show ¬(0 : Int32) < 0 by decide), f3, List.getD_eq_getElem?_getD, List.getElem?_eq_getElem fv, Option.getD_some, List.getD_eq_getElem?_getD, List.getElem?_eq_getElem f1, Option.getD_some, hR 135 63 (by omega), h63, f2, e80, im_t (show 80 * B + f < 2147483648 by omega)]
      by_cases n0 : q = 0
      · rw [if_pos n0, if_pos n0, if_neg (ms_iy hx (by decide)), hR 159 _ (by omega), a1]
        have e48 : Int32.ofNat (48 * h + vs[f].1) - Int32.ofNat (48 * h + vs[f].1) / 48 * 48 = Int32.ofNat vs[f].1 := by
          rw [show (48 : Int32) = Int32.ofNat 48 from rfl, im_div (by omega) (by decide), show (48 * h + vs[f].1) / 48 = h by omega, ← Int32.ofNat_mul, show 48 * h + vs[f].1 = vs[f].1 + h * 48 by omega, im_sb]
        rw [e48]
      · rw [if_neg n0, if_neg n0]
        by_cases n1 : q = 1
        · rw [if_pos n1, if_pos n1, if_neg (ms_iy hx (by decide)), hR 160 _ (by omega), a2]
        · rw [if_neg n1, if_neg n1]
          by_cases n2 : q = 2
          · rw [if_pos n2, if_pos n2, mo_left hx b1 (by rw [hR 159 _ (by omega)]; exact b4) (by rw [hR 160 _ (by omega)]; exact b5) (by rw [hR 138 _ (by omega)]; exact b6) b2 b3, wd_c_s, b7]
          · rw [if_neg n2, if_neg n2]
            by_cases n3 : q = 3
            · rw [if_pos n3, if_pos n3, if_neg (ms_iy hx (by decide)), hR 163 _ (by omega), d3]
            · rw [if_neg n3, if_neg n3]
              by_cases n4 : q = 4
              · rw [if_pos n4, if_pos n4, if_neg (ms_iy hx (by decide)), hR 164 _ (by omega), d4]
              · rw [if_neg n4, if_neg n4]
                by_cases n5 : q = 5
                · have hy : y < 15010 := by have := d2.2.1; omega
                  have hk : (S.1 143 y = 5) ↔ tr_k ds[f].2.1 = 1 := by
                    rcases d2.2.2 with ⟨k1, -, w, -⟩ | ⟨k1, -, w, -⟩ | ⟨k1, -, w, -⟩ | ⟨k1, -, w, -⟩ | ⟨k1, w, -⟩ | ⟨k1 | k1 | k1 | k1 | k1, -, w, -⟩ <;> rw [k1, w] <;> decide
                  rw [if_pos n5, if_pos n5, if_neg (ms_iy hx (by decide)), hR 162 _ (by omega), d1, if_neg (ms_in hy (by decide)), im_t (show y < 2147483648 by omega), hR 143 _ (by omega)]
                  by_cases hk1 : tr_k ds[f].2.1 = 1
                  · rw [if_pos hk1, if_pos (hk.mpr hk1)]
                  · rw [if_neg hk1, if_neg (fun z => hk1 (hk.mp z))]
                · rw [if_neg n5, if_neg n5]
                  obtain ⟨i, i1, i2, i3⟩ := vr_q (fun z => h2 (Or.inl z)) (fun z => h2 (Or.inr z)) n0 n1 n2 n3 n4 n5
                  have e4 : (4 : Int32) * Int32.ofNat (80 * B + f) + q - 6 = Int32.ofNat (4 * (80 * B + f) + i) := by
                    rw [i2, show (4 : Int32) = Int32.ofNat 4 from rfl, im_ma, show (6 : Int32) = Int32.ofNat 6 from rfl, show 4 * (80 * B + f) + (i + 6) = 4 * (80 * B + f) + i + 6 by omega, im_sb]
                  rw [e4, if_neg (ms_in (show 4 * (80 * B + f) + i < 640 by omega) (by decide)), im_t (show 4 * (80 * B + f) + i < 2147483648 by omega), hR 161 _ (by omega), a3 i i1, i3, im_t (show i < 2147483648 by omega)]
end Vr
