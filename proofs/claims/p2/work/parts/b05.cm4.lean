/-! The class's maker: a call's arguments looked at, dropped. -/
abbrev ca_T : Type := List (Nat × mk_R)
def ca_z (ps : ca_T) : List Nat := ps.map (fun p => p.1)
def ca_a (ps : ca_T) : List mk_R := ps.map (fun p => p.2)
def ca_k (ps : ca_T) : ca_T := ps.filter (fun p => decide (¬tr_k p.2.1 = 1))
theorem ca_kp (ps : ca_T) : mk_kp (ca_a ps) = ca_a (ca_k ps) := by
  unfold mk_kp ca_a ca_k
  rw [List.filter_map]
  rfl
section Cm4
variable {b v : Nat} {pg : pg_T} {S0 S S' S1 S2 : wd_S} {N N' : mk_N} {s s' : mk_S} {c c' y z d r g n : Nat} {t : tr_T} {ps : ca_T}
theorem ca_at {i : Nat} (hi : i < ps.length) : mk_at (ca_a ps) i = ps[i].2 := by
  unfold mk_at ca_a
  rw [List.getD_eq_getElem?_getD, List.getElem?_map, List.getElem?_eq_getElem hi]
  rfl
/-- what is wanted -/
theorem cm_gw4 (hX : cm_X b v pg S0) (ho : of_r (cm_W v) cx_R S0 S) (hc : c < 1000) (h4 : ps.length ≤ 4) (h6 : S.1 (v + 2 + 6) c = Int32.ofNat ps.length) (h8 : ∀ j, (hj : j < ps.length) → S.1 (v + 2 + 8) (4 * c + j) = Int32.ofNat ps[j].1 ∧ ps[j].1 < 1000 ∧ S.1 (v + 2 + 2) ps[j].1 = tr_k ps[j].2.1 ∧ S.1 (v + 2 + 4) ps[j].1 = tr_v ps[j].2.1) : ∀ (r i F : Nat) (S1 : wd_S), i + r = ps.length → of_f (fun a k => a = 121) S S1 → (∀ j, j < i → mk_nb (ca_a ps) j = true → S1.1 121 j = mk_kn (ca_a ps) j) → ∃ S', fn_Maker_gatherWanted_4 (F + 1 + r) (Int32.ofNat c) (Int32.ofNat (mk_mk (mk_nb (ca_a ps)) i)) (Int32.ofNat i) S1 = some (Int32.ofNat (mk_mk (mk_nb (ca_a ps)) ps.length), S') ∧ of_f (fun a k => a = 121) S S' ∧ ∀ j, j < ps.length → mk_nb (ca_a ps) j = true → S'.1 121 j = mk_kn (ca_a ps) j := by
  obtain ⟨t9, t0, t8, ⟨g2, g4, g6, g8, g10, g12⟩, -⟩ := cm_vv hX
  have hv := hX.2.1
  intro r
  induction r with
  | zero =>
    intro i F S1 hi o1 hj
    have hi : i = ps.length := hi
    subst hi
    refine ⟨S1, ?_, o1, hj⟩
    rw [Nat.add_zero, fn_Maker_gatherWanted_4]
    have oo : of_r (cm_W v) cx_R S0 S1 := ofr_trans ho (ofr_of (fun a k q => by unfold cm_W; omega) o1)
    unfold fn_Maker_gatherWanted_70
    split
    · rw [cm_r4 hX oo, if_pos t8, fo_tparts, wd_c_s, ro_an (r := v + 2 + 5) g6 hc, o1.1 (v + 2 + 5 + 1) c (by omega), h6, if_neg Int32.lt_irrefl]
    · rfl
  | succ r ih =>
    intro i F S1 hi o1 hj
    have hil : i < ps.length := by omega
    have oo : of_r (cm_W v) cx_R S0 S1 := ofr_trans ho (ofr_of (fun a k q => by unfold cm_W; omega) o1)
    obtain ⟨k1, k2, k3, k4⟩ := h8 i hil
    have hnb : mk_nb (ca_a ps) i = decide (tr_k ps[i].2.1 = 1) := by unfold mk_nb; rw [ca_at hil]
    have hkn : mk_kn (ca_a ps) i = tr_v ps[i].2.1 := by unfold mk_kn; rw [ca_at hil]
    show ∃ S', fn_Maker_gatherWanted_4 (F + 1 + r + 1) (Int32.ofNat c) (Int32.ofNat (mk_mk (mk_nb (ca_a ps)) i)) (Int32.ofNat i) S1 = _ ∧ _
    rw [fn_Maker_gatherWanted_4, if_pos (show Int32.ofNat i < 4 from (im_lt (m := i) (n := 4) (by omega) (by omega)).mpr (by omega)), cm_r4 hX oo, if_pos t8, fo_tparts, wd_c_s, ro_an (r := v + 2 + 5) g6 hc, o1.1 (v + 2 + 5 + 1) c (by omega), h6, if_pos ((im_lt (by omega) (by omega)).mpr hil), cm_r4 hX oo, if_pos t8, fo_tpart, wd_c_s, if_neg (im_neg (by omega)), if_pos (show Int32.ofNat i < 4 from (im_lt (m := i) (n := 4) (by omega) (by omega)).mpr (by omega)), show Int32.ofNat c * 4 + Int32.ofNat i = Int32.ofNat (4 * c + i) by rw [show (4 : Int32) = Int32.ofNat 4 from rfl, im_ma, Nat.mul_comm], ro_an (r := v + 2 + 7) g8 (show 4 * c + i < 4 * 1000 by omega), o1.1 (v + 2 + 7 + 1) _ (by omega), show S.1 (v + 2 + 7 + 1) (4 * c + i) = Int32.ofNat ps[i].1 from k1, cm_isn hX oo k2, wd_c_s, o1.1 (v + 2 + 2) _ (by omega), k3]
    unfold fn_Maker_gatherWanted_64
    by_cases e : tr_k ps[i].2.1 = 1
    · rw [if_pos e, if_neg (by decide), cm_r4 hX oo, if_pos t8, cm_vl hX k2, wd_c_s, ro_put_ok, wd_d_s, ro_pn cm_121 (show i < 4 by omega), o1.1 (v + 2 + 4) _ (by omega), k4, im_s, mk_i_or i (by omega) _ (mk_mk_lt _ i)]
      have em : mk_mk (mk_nb (ca_a ps)) i + 2 ^ i = mk_mk (mk_nb (ca_a ps)) (i + 1) := by
        show _ = mk_mk (mk_nb (ca_a ps)) i + (if mk_nb (ca_a ps) i = true then 2 ^ i else 0)
        rw [hnb, decide_eq_true e, if_pos rfl]
      rw [em]
      refine ih (i + 1) F _ (by omega) (of_i rfl o1) (fun j h1 h2 => ?_)
      by_cases ej : j = i
      · rw [ej, fr_e (by omega), hkn]
      · rw [fr_ne (by omega)]; exact hj j (by omega) h2
    · rw [if_neg e, if_pos rfl, im_s]
      have em : mk_mk (mk_nb (ca_a ps)) i = mk_mk (mk_nb (ca_a ps)) (i + 1) := by
        show _ = mk_mk (mk_nb (ca_a ps)) i + (if mk_nb (ca_a ps) i = true then 2 ^ i else 0)
        rw [hnb, decide_eq_false e, if_neg (by decide), Nat.add_zero]
      rw [em]
      refine ih (i + 1) F _ (by omega) o1 (fun j h1 h2 => ?_)
      by_cases ej : j = i
      · rw [ej, hnb, decide_eq_false e] at h2; cases h2
      · exact hj j (by omega) h2
/-- NUMBERS are dropped -/
theorem cm_dr4 (gL : nd_L (v + 2) 1000) (hc : c < 1000) (hn : n ≤ 4) : ∀ (rs ks : ca_T) (i K F : Nat) (S : wd_S), i + rs.length = n → ks.length ≤ i → S.1 (v + 2 + 6) c = Int32.ofNat n → S.1 (v + 2 + 10) c = Int32.ofNat (K + mk_sz (ca_a rs)) → (∀ j, (hj : j < ks.length) → S.1 (v + 2 + 8) (4 * c + j) = Int32.ofNat ks[j].1) → (∀ j, (hj : j < rs.length) → S.1 (v + 2 + 8) (4 * c + (i + j)) = Int32.ofNat rs[j].1) → (∀ p, p ∈ rs → p.1 < 1000 ∧ S.1 (v + 2 + 2) p.1 = tr_k p.2.1 ∧ (tr_k p.2.1 = 1 → p.2.2 = (1, 0))) → ∃ S', fn_Trees_dropNumbers_4 (F + 1 + rs.length) (v + 2) (Int32.ofNat c) (Int32.ofNat ks.length) (Int32.ofNat i) S = some S' ∧ of_f (fun a k => ((a = v + 2 + 6 ∨ a = v + 2 + 10) ∧ k = c) ∨ (a = v + 2 + 8 ∧ 4 * c ≤ k ∧ k < 4 * c + 4)) S S' ∧ S'.1 (v + 2 + 6) c = Int32.ofNat (ks ++ ca_k rs).length ∧ S'.1 (v + 2 + 10) c = Int32.ofNat (K + mk_sz (ca_a (ca_k rs))) ∧ ∀ j, (hj : j < (ks ++ ca_k rs).length) → S'.1 (v + 2 + 8) (4 * c + j) = Int32.ofNat (ks ++ ca_k rs)[j].1 := by
  obtain ⟨g2, g4, g6, g8, g10, g12⟩ := gL
  intro rs
  induction rs with
  | nil =>
    intro ks i K F S hi hk h6 h10 h8 _ _
    have hi : i = n := hi
    rw [show F + 1 + ([] : ca_T).length = F + 1 from rfl, fn_Trees_dropNumbers_4, fo_tparts, wd_c_s, ro_an (r := v + 2 + 5) g6 hc, show S.1 (v + 2 + 5 + 1) c = Int32.ofNat n from h6, hi, if_neg Int32.lt_irrefl, ro_put_ok, wd_d_s, ro_pn (r := v + 2 + 5) g6 hc]
    have e0 : ks ++ ca_k [] = ks := List.append_nil _
    refine ⟨_, rfl, of_i (by omega) of_refl, ?_, ?_, ?_⟩
    · rw [fr_e (by omega), e0]
    · rw [fr_ne (by omega)]; exact h10
    · rw [e0]
      intro j hj
      rw [fr_ne (by omega)]
      exact h8 j hj
  | cons p rs ih =>
    intro ks i K F S hi hk h6 h10 h8 h8' hp
    have hi : i + (rs.length + 1) = n := hi
    obtain ⟨p1, p2, p3⟩ := hp p List.mem_cons_self
    have hz : S.1 (v + 2 + 8) (4 * c + i) = Int32.ofNat p.1 := h8' 0 (Nat.zero_lt_succ _)
    show ∃ S', fn_Trees_dropNumbers_4 (F + 1 + rs.length + 1) (v + 2) (Int32.ofNat c) (Int32.ofNat ks.length) (Int32.ofNat i) S = _ ∧ _
    rw [fn_Trees_dropNumbers_4, fo_tparts, wd_c_s, ro_an (r := v + 2 + 5) g6 hc, show S.1 (v + 2 + 5 + 1) c = Int32.ofNat n from h6, if_pos ((im_lt (by omega) (by omega)).mpr (by omega)), fo_tpart, wd_c_s, if_neg (im_neg (by omega)), if_pos (show Int32.ofNat i < 4 from (im_lt (m := i) (n := 4) (by omega) (by omega)).mpr (by omega)), show Int32.ofNat c * 4 + Int32.ofNat i = Int32.ofNat (4 * c + i) by rw [show (4 : Int32) = Int32.ofNat 4 from rfl, im_ma, Nat.mul_comm], ro_an (r := v + 2 + 7) g8 (show 4 * c + i < 4 * 1000 by omega), show S.1 (v + 2 + 7 + 1) (4 * c + i) = Int32.ofNat p.1 from hz, fo_tkind, wd_c_s, ro_an (r := v + 2 + 1) g2 p1, show S.1 (v + 2 + 1 + 1) p.1 = tr_k p.2.1 from p2]
    unfold fn_Trees_dropNumbers_69
    by_cases e : tr_k p.2.1 = 1
    · have ek : ca_k (p :: rs) = ca_k rs := List.filter_cons_of_neg (by rw [decide_eq_true_iff]; exact fun q => q e)
      have es : K + mk_sz (ca_a (p :: rs)) = K + mk_sz (ca_a rs) + 1 := by
        show K + (p.2.2.1 + mk_sz (ca_a rs)) = _
        rw [p3 e]
        show K + (1 + mk_sz (ca_a rs)) = _
        omega
      rw [if_pos e, ro_at_ok, wd_c_s, ro_an (r := v + 2 + 9) g10 hc, show S.1 (v + 2 + 9 + 1) c = Int32.ofNat (K + mk_sz (ca_a (p :: rs))) from h10, es, im_p, ro_put_ok, wd_d_s, ro_pn (r := v + 2 + 9) g10 hc, im_s, ek]
      obtain ⟨S', f1, o1, q1, q2, q3⟩ := ih ks (i + 1) K F (wd_i S (v + 2 + 9 + 1) c (Int32.ofNat (K + mk_sz (ca_a rs)))) (by omega) (by omega) (by rw [fr_ne (by omega)]; exact h6) (by rw [fr_e (by omega)]) (fun j hj => by rw [fr_ne (by omega)]; exact h8 j hj) (fun j hj => by
          rw [fr_ne (by omega), show i + 1 + j = i + (j + 1) by omega]
          exact h8' (j + 1) (Nat.succ_lt_succ hj)) (fun q hq => by
          obtain ⟨r1, r2, r3⟩ := hp q (List.mem_cons_of_mem _ hq)
          exact ⟨r1, by rw [fr_ne (by omega)]; exact r2, r3⟩)
      exact ⟨S', f1, of_trans (of_i (by omega) of_refl) o1, q1, q2, q3⟩
    · have ek : ca_k (p :: rs) = p :: ca_k rs := List.filter_cons_of_pos (decide_eq_true e)
      rw [if_neg e, show Int32.ofNat c * 4 + Int32.ofNat ks.length = Int32.ofNat (4 * c + ks.length) by rw [show (4 : Int32) = Int32.ofNat 4 from rfl, im_ma, Nat.mul_comm], ro_put_ok, wd_d_s, ro_pn (r := v + 2 + 7) g8 (show 4 * c + ks.length < 4 * 1000 by omega), im_s, im_s]
      have el : ks.length + 1 = (ks ++ [p]).length := by rw [List.length_append]; rfl
      rw [el]
      obtain ⟨S', f1, o1, q1, q2, q3⟩ := ih (ks ++ [p]) (i + 1) (K + p.2.2.1) F (wd_i S (v + 2 + 7 + 1) (4 * c + ks.length) (Int32.ofNat p.1)) (by omega) (by rw [← el]; omega) (by rw [fr_ne (by omega)]; exact h6) (by
          rw [fr_ne (by omega), h10]
          show Int32.ofNat (K + (p.2.2.1 + mk_sz (ca_a rs))) = _
          rw [Nat.add_assoc]) (fun j hj => by
          rw [← el] at hj
          by_cases ej : j = ks.length
          · subst ej
            rw [fr_e (by omega), List.getElem_append_right (Nat.le_refl _)]
            simp only [Nat.sub_self, List.getElem_cons_zero]
          · rw [fr_ne (by omega), List.getElem_append_left (show j < ks.length by omega)]
            exact h8 j (by omega)) (fun j hj => by
          rw [fr_ne (by omega), show i + 1 + j = i + (j + 1) by omega]
          exact h8' (j + 1) (Nat.succ_lt_succ hj)) (fun q hq => by
          obtain ⟨r1, r2, r3⟩ := hp q (List.mem_cons_of_mem _ hq)
          exact ⟨r1, by rw [fr_ne (by omega)]; exact r2, r3⟩)
      have e2 : (ks ++ [p]) ++ ca_k rs = ks ++ ca_k (p :: rs) := by rw [ek, List.append_assoc]; rfl
      refine ⟨S', f1, of_trans (of_i (by omega) of_refl) o1, by rw [← e2]; exact q1, ?_, by rw [← e2]; exact q3⟩
      rw [q2, ek]
      show _ = Int32.ofNat (K + (p.2.2.1 + mk_sz (ca_a (ca_k rs))))
      rw [Nat.add_assoc]
theorem ca_lt (h : ∀ p, p ∈ ps → tr_k p.2.1 = 1 → p.2.2 = (1, 0)) : mk_lt (ca_a (ca_k ps)) = mk_lt (ca_a ps) := by
  induction ps with
  | nil => rfl
  | cons p ps ih =>
    have ih := ih (fun q hq => h q (List.mem_cons_of_mem _ hq))
    by_cases e : tr_k p.2.1 = 1
    · have ek : ca_k (p :: ps) = ca_k ps := List.filter_cons_of_neg (by rw [decide_eq_true_iff]; exact fun q => q e)
      rw [ek, ih]
      show _ = p.2.2.2 + mk_lt (ca_a ps)
      rw [h p List.mem_cons_self e, Nat.zero_add]
    · have ek : ca_k (p :: ps) = p :: ca_k ps := List.filter_cons_of_pos (decide_eq_true e)
      rw [ek]
      show p.2.2.2 + mk_lt (ca_a (ca_k ps)) = p.2.2.2 + mk_lt (ca_a ps)
      rw [ih]
end Cm4
