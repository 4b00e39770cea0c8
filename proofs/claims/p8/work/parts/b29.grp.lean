/-! part b29 -/
section
/-! The class's print(). -/
/-- bytes of a rest: not more than 24 an EXPRESSION -/
def pz_t : Nat → tr_T → Nat → Prop
  | 0, _, _ => False
  | d + 1, t, z => (tr_a t = 0 ∧ z = 1) ∨ ∃ zs : List Nat, zs.length = tr_a t ∧ z = 1 + zs.sum ∧ ∀ j, (hj : j < zs.length) → pz_t d (tr_sub t j) zs[j]
section Pc4
variable {w : Bool} {v n m k pn y z d r j c : Nat} {l l1 l2 : List Int32} {S0 S S' S1 S2 : wd_S} {f g : wd_S → Option wd_S} {t : tr_T} {s s' s1 : pr_S} {pg ds : pg_T}
theorem pc_39 (hX : pc_X v w S0) (hpn : pn ≤ 4) {K : wd_S → Option wd_S} {k : Int32} (hK : ∀ F S, S.1 128 6 = Int32.ofNat pn → fn_Printer_showVersion_39 (F + 1) k (Int32.ofNat pn) S = K S) : ∀ (q i F n : Nat) (S : wd_S), i + q = pn → S.1 128 4 = (if w = true then 1 else 0) → S.1 128 6 = Int32.ofNat pn → S.1 128 5 = Int32.ofNat n → n + (pr_ps q i).length ≤ 40000 → ∃ S', fn_Printer_showVersion_39 (F + 1 + q) k (Int32.ofNat i) S = K S' ∧ pc_o w n (pr_ps q i) S S' := by
  intro q
  induction q with
  | zero =>
    intro i F n S hi h4 h6 h5 hn
    have hi : i = pn := hi
    subst hi
    exact ⟨S, hK F S h6, of_refl, h5, fun _ j hj => absurd hj (Nat.not_lt_zero _)⟩
  | succ q ih =>
    intro i F n S hi h4 h6 h5 hn
    have hw : pc_f w ((if i = 0 then [] else pr_x 17) ++ [97 + Int32.ofNat i]) (fun S => wd_d (fn_Printer_putText (if i = 0 then 16 else 17) S) (fn_Printer_put (97 + Int32.ofNat i))) := by
      refine pc_seq ?_ pc_put
      by_cases e : i = 0
      · rw [if_pos e, if_pos e]; exact pc_text (t := 16) (by decide)
      · rw [if_neg e, if_neg e]; exact pc_text (t := 17) (by decide)
    have el : pr_ps (q + 1) i = ((if i = 0 then [] else pr_x 17) ++ [97 + Int32.ofNat i]) ++ pr_ps q (i + 1) := by
      show (if i = 0 then [] else pr_x 17) ++ (97 + Int32.ofNat i) :: pr_ps q (i + 1) = _
      rw [List.append_assoc]
      rfl
    rw [el] at hn ⊢
    rw [List.length_append] at hn
    obtain ⟨S1, f1, o1⟩ := hw n S h4 h5 (by omega)
    obtain ⟨S2, f2, o2⟩ := ih (i + 1) F _ S1 (by omega) (by rw [o1.1.1 128 4 (by omega)]; exact h4) (by rw [o1.1.1 128 6 (by omega)]; exact h6) o1.2.1 (by omega)
    refine ⟨S2, ?_, pc_cat o1 o2⟩
    show fn_Printer_showVersion_39 (F + 1 + q + 1) k (Int32.ofNat i) S = _
    rw [fn_Printer_showVersion_39, h6, if_pos ((im_lt (by omega) (by omega)).mpr (by omega))]
    unfold fn_Printer_showVersion_59
    rw [im_s, ← f2]
    have f1 : wd_d (fn_Printer_putText (if i = 0 then 16 else 17) S) (fn_Printer_put (97 + Int32.ofNat i)) = some S1 := f1
    have fin : ∀ T, T = (if i = 0 then 16 else 17) → (wd_d (fn_Printer_putText T S) fun S39 => wd_d (fn_Printer_put (97 + Int32.ofNat i) S39) fun S42 => fn_Printer_showVersion_39 (F + 1 + q) k (Int32.ofNat (i + 1)) S42) = fn_Printer_showVersion_39 (F + 1 + q) k (Int32.ofNat (i + 1)) S1 := fun T hT => by
      rw [← hT] at f1
      cases hx : fn_Printer_putText T S with
      | none => rw [hx] at f1; cases f1
      | some Sx => rw [hx, wd_d_s] at f1; rw [wd_d_s, f1, wd_d_s]
    by_cases e : i = 0
    · rw [if_pos (show Int32.ofNat i = 0 by rw [e]; rfl)]
      exact fin 16 (by rw [if_pos e])
    · rw [if_neg (show ¬Int32.ofNat i = 0 from fun q => e ((im_eq (m := i) (n := 0) (by omega) (by omega)).mp q))]
      exact fin 17 (by rw [if_neg e])
/-- what printing versions may write -/
def pv_W (n m a b : Nat) : Prop := (a = 127 ∧ n ≤ b ∧ b < m) ∨ (a = 128 ∧ (b = 5 ∨ b = 6 ∨ b = 7)) ∨ a = 130
theorem pc_ver (hX : pc_X v w S) (hk : k < 78) (hpn : pn ≤ 4) (h18 : S.1 (v + 18) k = Int32.ofNat pn) (h16 : S.1 (v + 16) k = Int32.ofNat y) (ht : nd_t (v + 2) S 0 1000 96 y t) (h5 : S.1 128 5 = Int32.ofNat n) (he : pr_v k pn t = some l) (hn : n + l.length ≤ 40000) : ∃ S', fn_Printer_showVersion (Int32.ofNat k) S = some S' ∧ of_f (pv_W n (n + l.length)) S S' ∧ S'.1 128 5 = Int32.ofNat (n + l.length) ∧ (w = true → ∀ j, (hj : j < l.length) → S'.1 127 (n + j) = l[j]) := by
  obtain ⟨t9, t0, t8, gL, z16, z18⟩ := pc_vv hX
  unfold pr_v at he
  cases hq : pr pn 96 (0, fun _ => none) t with
  | none => rw [hq] at he; cases he
  | some q =>
    rw [hq] at he
    cases he
    generalize hL1 : (118 :: pr_n k ++ 40 :: pr_ps pn 0 ++ pr_x 18 : List Int32) = L1 at *
    generalize hS1 : wd_i (wd_i S 128 6 (Int32.ofNat pn)) 128 7 0 = S1
    have o1 : of_f (fun a b => a = 128 ∧ (b = 6 ∨ b = 7)) S S1 := by rw [← hS1]; exact of_i (by omega) (of_i (by omega) of_refl)
    have c6 : S1.1 128 6 = Int32.ofNat pn := by rw [← hS1, fr_ne (by omega), fr_eq]
    have c7 : S1.1 128 7 = 0 := by rw [← hS1, fr_eq]
    have c4 : S1.1 128 4 = (if w = true then 1 else 0) := by rw [o1.1 128 4 (by omega)]; exact hX.2.2.2
    have c5 : S1.1 128 5 = Int32.ofNat n := by rw [o1.1 128 5 (by omega)]; exact h5
    have eL : L1.length = (pr_n k).length + 1 + 1 + (pr_ps pn 0).length + 4 := by
      rw [← hL1]
      simp only [List.length_append, List.length_cons]
      have : (pr_x 18).length = 4 := rfl
      omega
    rw [List.length_append, List.length_append] at hn
    have e19 : (pr_x 19).length = 2 := rfl
    -- v, its number, (
    obtain ⟨S2, f2, o2⟩ := pc_seq (w := w) (pc_seq (w := w) (pc_put (x := 118)) (pc_num (w := w) (m := k) (by omega))) (pc_put (w := w) (x := 40)) n S1 c4 c5 (by simp only [List.length_append, List.length_cons, List.length_nil]; omega)
    generalize hL2 : ([118] ++ pr_n k ++ [40] : List Int32) = L2 at *
    have eL2 : L2.length = (pr_n k).length + 2 := by
      rw [← hL2]
      simp only [List.length_append, List.length_cons, List.length_nil]
      omega
    -- the tail
    let K : wd_S → Option wd_S := fun S => (wd_d (fn_Printer_putText 18 S) fun S21 => (if tp_t (S21.2.2.1 128 2) = (0, 9) then (wd_c (fn_Versions_bodies (S21.2.2.1 128 2) S21) fun x26 S25 => if tp_t x26 = (0, 0) then (wd_c (fn_Bodies_root x26 (Int32.ofNat k) S25) fun x30 S29 => (wd_d (rc_Printer_show 200 130 x30 (0 : Int32) S29) fun S32 => (wd_d (fn_Printer_putText 19 S32) fun S35 => some S35))) else none) else none))
    obtain ⟨S3, f3, o3⟩ := pc_39 (w := w) (K := K) (k := Int32.ofNat k) hX hpn (fun F S q => by rw [fn_Printer_showVersion_39, q, if_neg Int32.lt_irrefl]) pn 0 (999999 - pn) (n + L2.length) S2 (Nat.zero_add _) (by rw [o2.1.1 128 4 (by omega)]; exact c4) (by rw [o2.1.1 128 6 (by omega)]; exact c6) o2.2.1 (by omega)
    rw [show 999999 - pn + 1 + pn = wd_F by rw [show wd_F = 1000000 from rfl]; omega] at f3
    have o23 := pc_cat o2 o3
    obtain ⟨S4, f4, o4⟩ := pc_text (w := w) (t := 18) (by decide) (n + (L2 ++ pr_ps pn 0).length) S3 (by rw [o23.1.1 128 4 (by omega)]; exact c4) o23.2.1 (by rw [List.length_append]; have : (pr_x 18).length = 4 := rfl; omega)
    have o24 := pc_cat o23 o4
    have eLL : L2 ++ pr_ps pn 0 ++ pr_x 18 = L1 := by
      rw [← hL1, ← hL2]
      simp only [List.cons_append, List.nil_append, List.append_assoc]
    rw [eLL] at o24
    -- the tree
    have oS4 : of_f (fun a b => (a = 128 ∧ (b = 5 ∨ b = 6 ∨ b = 7)) ∨ (a = 127 ∧ n ≤ b ∧ b < n + L1.length)) S S4 := of_trans (of_mono (fun a b q => by omega) o1) (of_mono (fun a b q => by omega) o24.1)
    have hX4 : pc_X v w S4 := ⟨hX.1, by rw [oS4.2.2]; exact hX.2.1, by rw [oS4.2.2]; exact hX.2.2.1, by rw [oS4.1 128 4 (by omega)]; exact hX.2.2.2⟩
    have hv := hX.1
    have ht4 : nd_t (v + 2) S4 0 1000 96 y t := nd_t_g (nd_rows (fun a q1 q2 => funext fun b => oS4.1 a b (by omega))) _ _ _ ht
    have hp4 : pc_h S4 pn (n + L1.length) (0, fun _ => none) S4 := ⟨of_refl, o24.2.1, by rw [o24.1.1 128 6 (by omega)]; exact c6, by rw [o24.1.1 128 7 (by omega)]; exact c7, Nat.zero_le _, hpn, fun i j hij => by cases hij⟩
    obtain ⟨S5, f5, r5⟩ := pc_all (pn := pn) hX4 96 (Nat.le_refl _) y t 96 ht4 (n + L1.length) (0, fun _ => none) S4 q.1 q.2 hq hp4 (by omega)
    have f5 : rc_Printer_show 200 130 (Int32.ofNat y) 0 S4 = some S5 := f5
    obtain ⟨S6, f6, o6⟩ := pc_text (w := w) (t := 19) (by decide) (n + L1.length + q.1.length) S5 (pc_h4 hX4 r5.1) r5.1.2.1 (by omega)
    have ecode : fn_Printer_showVersion (Int32.ofNat k) S = some S6 := by
      unfold fn_Printer_showVersion fn_Versions_bodies
      simp only [wd_b]
      rw [hX.2.1, if_pos t9, wd_c_s, if_pos t0, fo_params, wd_c_s, ro_an (r := v + 1 + 16) (show (tp_t (v + 1 + 16 + 1)).2 = 78 by rw [show v + 1 + 16 + 1 = v + 18 by omega]; exact z18) hk, show S.1 (v + 1 + 16 + 1) k = Int32.ofNat pn by rw [show v + 1 + 16 + 1 = v + 18 by omega]; exact h18, hS1]
      have f2 : wd_d (wd_d (fn_Printer_put 118 S1) (fn_Printer_putNumber (Int32.ofNat k))) (fn_Printer_put 40) = some S2 := f2
      have e2 : (wd_d (fn_Printer_put 118 S1) fun S11 => wd_d (fn_Printer_putNumber (Int32.ofNat k) S11) fun S14 => wd_d (fn_Printer_put 40 S14) fun S17 => fn_Printer_showVersion_39 wd_F (Int32.ofNat k) 0 S17) = fn_Printer_showVersion_39 wd_F (Int32.ofNat k) 0 S2 := by
        cases hx : fn_Printer_put 118 S1 with
        | none => rw [hx] at f2; cases f2
        | some Sx =>
          rw [hx, wd_d_s] at f2
          rw [wd_d_s]
          cases hy : fn_Printer_putNumber (Int32.ofNat k) Sx with
          | none => rw [hy] at f2; cases f2
          | some Sy =>
            rw [hy, wd_d_s] at f2
            rw [wd_d_s, f2, wd_d_s]
      have f3 : fn_Printer_showVersion_39 wd_F (Int32.ofNat k) 0 S2 = K S3 := f3
      rw [e2, f3]
      show (wd_d (fn_Printer_putText 18 S3) fun S21 => _) = some S6
      rw [f4, wd_d_s, hX4.2.1, if_pos t9]
      unfold fn_Versions_bodies
      rw [wd_c_s, if_pos t0, fo_root, wd_c_s, ro_an (r := v + 1 + 14) (show (tp_t (v + 1 + 14 + 1)).2 = 78 by rw [show v + 1 + 14 + 1 = v + 16 by omega]; exact z16) hk, oS4.1 (v + 1 + 14 + 1) k (by omega), show S.1 (v + 1 + 14 + 1) k = Int32.ofNat y by rw [show v + 1 + 14 + 1 = v + 16 by omega]; exact h16, f5, wd_d_s, f6, wd_d_s]
    have hlen : (L1 ++ q.1 ++ pr_x 19).length = L1.length + q.1.length + 2 := by rw [List.length_append, List.length_append, e19]
    refine ⟨S6, ecode, ?_, ?_, fun hw j hj => ?_⟩
    · rw [hlen]
      refine of_trans (of_mono (fun a b q => by unfold pv_W; omega) oS4) (of_trans (of_mono (fun a b q => by unfold pc_V at q; unfold pv_W; omega) r5.2.1) (of_mono (fun a b q => by rw [e19] at q; unfold pv_W; omega) o6.1))
    · rw [o6.2.1, hlen, e19]
      congr 1
      omega
    · rw [hlen] at hj
      by_cases j1 : j < L1.length
      · rw [List.getElem_append_left (by rw [List.length_append]; omega), List.getElem_append_left j1, o6.1.1 127 _ (by omega), r5.2.1.1 127 _ (by unfold pc_V; omega)]
        exact o24.2.2 hw j j1
      · by_cases j2 : j < L1.length + q.1.length
        · rw [List.getElem_append_left (by rw [List.length_append]; omega), List.getElem_append_right (by omega), o6.1.1 127 _ (by omega)]
          have := r5.2.2 hw (j - L1.length) (by omega)
          rw [show n + L1.length + (j - L1.length) = n + j by omega] at this
          exact this
        · rw [List.getElem_append_right (by rw [List.length_append]; omega)]
          have := o6.2.2 hw (j - (L1 ++ q.1).length) (by rw [List.length_append, e19]; omega)
          rw [show n + L1.length + q.1.length + (j - (L1 ++ q.1).length) = n + j by rw [List.length_append]; omega] at this
          exact this
end Pc4
end
/-! part b30 -/
section
/-! The class's print(), whole. -/
def pv_P (v : Nat) (ds : pg_T) (S : wd_S) : Prop := S.1 (v + 1) 3 = Int32.ofNat ds.length ∧ ds.length ≤ 78 ∧ ∀ j, (hj : j < ds.length) → S.1 (v + 18) j = Int32.ofNat ds[j].1 ∧ ds[j].1 ≤ 4 ∧ ∃ y, S.1 (v + 16) j = Int32.ofNat y ∧ nd_t (v + 2) S 0 1000 96 y ds[j].2.1
section Pc5
variable {w : Bool} {v n m k pn y z d r j c : Nat} {l l1 l2 : List Int32} {S0 S S' S1 S2 : wd_S} {t : tr_T} {ds : pg_T}
theorem pv_o (hv : v = 54 ∨ v = 79) (hr : ∀ a, a < 127 → S'.1 a = S.1 a) (h : pv_P v ds S) : pv_P v ds S' := by
  obtain ⟨h1, h2, h3⟩ := h
  refine ⟨by rw [hr (v + 1) (by omega)]; exact h1, h2, fun j hj => ?_⟩
  obtain ⟨a1, a2, y, a3, a4⟩ := h3 j hj
  exact ⟨by rw [hr (v + 18) (by omega)]; exact a1, a2, y, by rw [hr (v + 16) (by omega)]; exact a3, nd_t_g (nd_rows (fun a q1 q2 => hr a (by omega))) _ _ _ a4⟩
theorem pr_vs_c {k : Nat} {q : Nat × tr_T × Nat × Nat} {r : pg_T} (h : pr_vs k (q :: r) = some l) : ∃ l1 l2, pr_v k q.1 q.2.1 = some l1 ∧ pr_vs (k + 1) r = some l2 ∧ l = l1 ++ l2 := by
  unfold pr_vs at h
  cases h1 : pr_v k q.1 q.2.1 with
  | none => rw [h1] at h; cases h
  | some l1 =>
    cases h2 : pr_vs (k + 1) r with
    | none => rw [h1, h2] at h; cases h
    | some l2 => rw [h1, h2] at h; cases h; exact ⟨l1, l2, rfl, rfl, rfl⟩
theorem pc_28 : ∀ (r : pg_T) (k F n : Nat) (S : wd_S) (l : List Int32), ds.drop k = r → k ≤ ds.length → pc_X v w S → pv_P v ds S → S.1 128 5 = Int32.ofNat n → pr_vs k r = some l → n + l.length ≤ 40000 → ∃ S', fn_Printer_showAll_28 (F + 1 + r.length) (Int32.ofNat k) S = some (Int32.ofNat (n + l.length), S') ∧ of_f (pv_W n (n + l.length)) S S' ∧ (w = true → ∀ j, (hj : j < l.length) → S'.1 127 (n + j) = l[j]) := by
  intro r
  induction r with
  | nil =>
    intro k F n S l hd hk hX hP h5 he hn
    have hk2 : k = ds.length := Nat.le_antisymm hk (List.drop_eq_nil_iff.mp hd)
    cases he
    obtain ⟨t9, -⟩ := pc_vv hX
    refine ⟨S, ?_, of_refl, fun _ j hj => absurd hj (Nat.not_lt_zero _)⟩
    rw [show F + 1 + ([] : pg_T).length = F + 1 from rfl, fn_Printer_showAll_28, hX.2.1, if_pos t9]
    unfold fn_Versions_count fn_Bodies_count
    rw [wd_c_s, wd_c_s, hP.1, hk2, if_neg Int32.lt_irrefl, h5]
    rfl
  | cons q r ih =>
    intro k F n S l hd hk hX hP h5 he hn
    have hlt : k < ds.length := by
      rcases Nat.lt_or_ge k ds.length with z | z
      · exact z
      · rw [List.drop_eq_nil_of_le z] at hd; cases hd
    rw [List.drop_eq_getElem_cons hlt] at hd
    injection hd with hq hd2
    obtain ⟨l1, l2, e1, e2, rfl⟩ := pr_vs_c he
    have h78 := hP.2.1
    obtain ⟨a1, a2, y, a3, a4⟩ := hP.2.2 k hlt
    rw [hq] at a1 a2 a4
    have hv := hX.1
    obtain ⟨t9, -⟩ := pc_vv hX
    rw [List.length_append] at hn
    obtain ⟨S1, f1, o1, c1, b1⟩ := pc_ver hX (show k < 78 by omega) a2 a1 a3 a4 h5 e1 (by omega)
    have hX1 : pc_X v w S1 := ⟨hv, by rw [o1.2.2]; exact hX.2.1, by rw [o1.2.2]; exact hX.2.2.1, by rw [o1.1 128 4 (by unfold pv_W; omega)]; exact hX.2.2.2⟩
    have hP1 : pv_P v ds S1 := pv_o hv (fun a ha => funext fun b => o1.1 a b (by unfold pv_W; omega)) hP
    obtain ⟨S2, f2, o2, b2⟩ := ih (k + 1) F (n + l1.length) S1 l2 hd2 hlt hX1 hP1 c1 e2 (by omega)
    have hlen : (l1 ++ l2).length = l1.length + l2.length := List.length_append
    refine ⟨S2, ?_, ?_, fun hw j hj => ?_⟩
    · show fn_Printer_showAll_28 (F + 1 + r.length + 1) (Int32.ofNat k) S = _
      rw [fn_Printer_showAll_28, hX.2.1, if_pos t9]
      unfold fn_Versions_count fn_Bodies_count
      rw [wd_c_s, wd_c_s, hP.1, if_pos ((im_lt (by omega) (by omega)).mpr hlt), f1, wd_d_s, im_s, f2, hlen, Nat.add_assoc]
    · rw [hlen]
      exact of_trans (of_mono (fun a b q => by unfold pv_W at *; omega) o1) (of_mono (fun a b q => by unfold pv_W at *; omega) o2)
    · rw [hlen] at hj
      by_cases e : j < l1.length
      · rw [List.getElem_append_left e, o2.1 127 (n + j) (by unfold pv_W; omega)]
        exact b1 hw j e
      · rw [List.getElem_append_right (by omega)]
        have := b2 hw (j - l1.length) (by omega)
        rw [show n + l1.length + (j - l1.length) = n + j by omega] at this
        exact this
theorem pc_showAll (hv : v = 54 ∨ v = 79) (hP : pv_P v ds S) (he : pr_vs 0 ds = some l) (hn : l.length ≤ 40000) : ∃ S', fn_Printer_showAll v (if w = true then 1 else 0) S = some (Int32.ofNat l.length, S') ∧ of_r (fun a b => a = 127 ∨ a = 128 ∨ a = 130) (fun a k => a = 128 ∧ (k = 2 ∨ k = 3)) S S' ∧ (w = true → ∀ j, (hj : j < l.length) → S'.1 127 j = l[j]) := by
  have t0 : tp_t (v + 1) = (0, 0) := by rcases hv with h | h <;> rw [h] <;> rfl
  have t8 : tp_t (v + 1 + 1) = (0, 8) := by rcases hv with h | h <;> rw [h] <;> rfl
  have hfit : mi_fit .boolean (.int (if w = true then 1 else 0)) = true := by cases w <;> rfl
  generalize hS1 : wd_i (wd_i (wd_r (wd_r S 128 2 v) 128 3 (v + 1 + 1)) 128 4 (if w = true then 1 else 0)) 128 5 0 = S1
  have o1 : of_r (fun a b => a = 128 ∧ (b = 4 ∨ b = 5)) (fun a k => a = 128 ∧ (k = 2 ∨ k = 3)) S S1 := by
    rw [← hS1]
    exact ofr_i (by omega) (ofr_i (by omega) (ofr_r (by omega) (ofr_r (by omega) ofr_refl)))
  have hX1 : pc_X v w S1 := by
    rw [← hS1]
    exact ⟨hv, rfl, rfl, by rw [fr_ne (by omega), fr_eq]⟩
  have c5 : S1.1 128 5 = Int32.ofNat 0 := by rw [← hS1, fr_eq]; rfl
  have hP1 : pv_P v ds S1 := pv_o hv (fun a ha => funext fun b => o1.1 a b (by omega)) hP
  have h78 := hP.2.1
  obtain ⟨S2, f2, o2, b2⟩ := pc_28 (w := w) ds 0 (999999 - ds.length) 0 S1 l rfl (Nat.zero_le _) hX1 hP1 c5 he (by omega)
  rw [show 999999 - ds.length + 1 + ds.length = wd_F by rw [show wd_F = 1000000 from rfl]; omega, Nat.zero_add] at f2
  refine ⟨S2, ?_, ofr_trans ⟨fun a b q => o1.1 a b (by omega), fun a b q => o1.2.1 a b (by omega), o1.2.2.1, o1.2.2.2⟩ (ofr_of (fun a b q => by unfold pv_W at q; omega) o2), fun hw j hj => ?_⟩
  · unfold fn_Printer_showAll fn_Versions_bodies fn_Bodies_trees
    simp only [wd_b]
    rw [wd_c_s, if_pos t0, wd_c_s, if_pos t8, if_pos hfit, hS1]
    exact f2
  · have := b2 hw j hj
    rw [Nat.zero_add] at this
    exact this
/-- what print() may write -/
def pq_W (a b : Nat) : Prop := a = 127 ∨ a = 128 ∨ a = 130 ∨ (a = 1 ∧ b = 15)
def pq_R (a k : Nat) : Prop := a = 128 ∧ (k = 2 ∨ k = 3)
theorem sp_print_x (hv : v = 54 ∨ v = 79) (h7 : S.2.2.1 1 7 = v) (h3 : S.1 (v + 1) 3 = 0) : fn_Sp_print S = some (.inr "java/lang/IllegalStateException", wd_n S) := by
  have t9 : tp_t v = (0, 9) := by rcases hv with h | h <;> rw [h] <;> rfl
  unfold fn_Sp_print fn_Versions_count fn_Bodies_count
  rw [h7, if_pos t9, wd_c_s, wd_c_s, if_pos h3]
theorem sp_print (hv : v = 54 ∨ v = 79) (h7 : S.2.2.1 1 7 = v) (hP : pv_P v ds S) (hd : 1 ≤ ds.length) (he : pr_vs 0 ds = some l) (hn : l.length ≤ 40000) : ∃ S', fn_Sp_print S = some (.inl (Int32.ofNat l.length), S') ∧ S'.1 1 15 = Int32.ofNat l.length ∧ (∀ j, (hj : j < l.length) → S'.1 127 j = l[j]) ∧ of_r pq_W pq_R S S' := by
  have t9 : tp_t v = (0, 9) := by rcases hv with h | h <;> rw [h] <;> rfl
  have h78 := hP.2.1
  obtain ⟨S1, f1, o1, -⟩ := pc_showAll (w := false) hv hP he hn
  rw [if_neg (show ¬false = true by decide)] at f1
  have r7 : S1.2.2.1 1 7 = v := by rw [o1.2.2.1 1 7 (by omega)]; exact h7
  have hP1 : pv_P v ds S1 := pv_o hv (fun a ha => funext fun b => o1.1 a b (by omega)) hP
  obtain ⟨S2, f2, o2, b2⟩ := pc_showAll (w := true) hv hP1 he hn
  rw [if_pos (rfl : true = true)] at f2
  refine ⟨wd_i S2 1 15 (Int32.ofNat l.length), ?_, fr_eq, fun j hj => by rw [fr_ne (by omega)]; exact b2 rfl j hj, ?_⟩
  · unfold fn_Sp_print fn_Versions_count fn_Bodies_count
    simp only [wd_b]
    rw [h7, if_pos t9, wd_c_s, wd_c_s, hP.1, if_neg (show ¬Int32.ofNat ds.length = 0 from fun q => by have := (im_eq (m := ds.length) (n := 0) (by omega) (by omega)).mp q; omega), h7, if_pos t9, f1, wd_c_s, if_neg (show ¬(40000 : Int32) < Int32.ofNat l.length from fun q => by have := (im_lt (m := 40000) (n := l.length) (by omega) (by omega)).mp q; omega), r7, if_pos t9, f2, wd_c_s, fr_eq]
  · refine ofr_i (by unfold pq_W; omega) (ofr_trans ⟨fun a b q => o1.1 a b (fun z => q (by unfold pq_W; omega)), fun a b q => o1.2.1 a b (fun z => q (by unfold pq_W; omega)), fun a k q => o1.2.2.1 a k q, o1.2.2.2⟩ ⟨fun a b q => o2.1 a b (fun z => q (by unfold pq_W; omega)), fun a b q => o2.2.1 a b (fun z => q (by unfold pq_W; omega)), fun a k q => o2.2.2.1 a k q, o2.2.2.2⟩)
end Pc5
end
/-! part b31 -/
section
/-! The reference's printing: bytes, figures, words of eight bytes. -/
def mp_o (n : Nat) (l : List Int32) (S S' : wd_S) : Prop := of_f (fun a b => (a = 135 ∧ b = 88) ∨ (a = 176 ∧ n ≤ b ∧ b < n + l.length)) S S' ∧ S'.1 135 88 = Int32.ofNat (n + l.length) ∧ ∀ j, (hj : j < l.length) → S'.1 176 (n + j) = l[j]
def mp_f (l : List Int32) (f : wd_S → Option wd_S) : Prop := ∀ (n : Nat) (S : wd_S), S.1 135 88 = Int32.ofNat n → n + l.length ≤ 40000 → ∃ S', f S = some S' ∧ mp_o n l S S'
def pr_8c (x : Int64) (i : Int32) : List Int32 := if ((x >>> (i.toInt64 &&& 63)) &&& 255).toInt32 = 0 then [] else [((x >>> (i.toInt64 &&& 63)) &&& 255).toInt32]
def pr_8 (x : Int64) : List Int32 := pr_8c x 56 ++ (pr_8c x 48 ++ (pr_8c x 40 ++ (pr_8c x 32 ++ (pr_8c x 24 ++ (pr_8c x 16 ++ (pr_8c x 8 ++ (pr_8c x 0 ++ [])))))))
section Mp
variable {n m k : Nat} {l l1 l2 : List Int32} {S S' S1 S2 : wd_S} {f g : wd_S → Option wd_S} {x : Int32} {e : Int64}
theorem mp_cat (h1 : mp_o n l1 S S1) (h2 : mp_o (n + l1.length) l2 S1 S2) : mp_o n (l1 ++ l2) S S2 := by
  obtain ⟨a1, a2, a3⟩ := h1
  obtain ⟨b1, b2, b3⟩ := h2
  have el : (l1 ++ l2).length = l1.length + l2.length := List.length_append
  refine ⟨of_trans (of_mono (fun a b q => by omega) a1) (of_mono (fun a b q => by omega) b1), by rw [b2, el, Nat.add_assoc], fun j hj => ?_⟩
  rw [el] at hj
  by_cases e : j < l1.length
  · rw [List.getElem_append_left e, b1.1 176 (n + j) (by omega)]
    exact a3 j e
  · rw [List.getElem_append_right (by omega)]
    have := b3 (j - l1.length) (by omega)
    rw [show n + l1.length + (j - l1.length) = n + j by omega] at this
    exact this
theorem mp_nil : mp_f [] (fun S => some S) := fun n S h5 _ => ⟨S, rfl, of_refl, h5, fun j hj => absurd hj (Nat.not_lt_zero _)⟩
theorem mp_seq (hf : mp_f l1 f) (hg : mp_f l2 g) : mp_f (l1 ++ l2) (fun S => wd_d (f S) g) := fun n S h5 hn => by
  rw [List.length_append] at hn
  obtain ⟨S1, f1, o1⟩ := hf n S h5 (by omega)
  obtain ⟨S2, f2, o2⟩ := hg (n + l1.length) S1 o1.2.1 (by omega)
  exact ⟨S2, by show wd_d (f S) g = _; rw [f1, wd_d_s, f2], mp_cat o1 o2⟩
theorem mp_lay : mp_f [x] (fn_Mo_lay x) := fun n S h5 hn => by
  have hn : n + 1 ≤ 40000 := hn
  unfold fn_Mo_lay fn_Mo_lay_19
  simp only [wd_b]
  rw [h5, if_pos (show Int32.ofNat n < 40000 from (im_lt (m := n) (n := 40000) (by omega) (by omega)).mpr (by omega)), if_neg (ms_in (show n < 40000 by omega) (by decide)), im_t (show n < 2147483648 by omega), fr_ne (show ¬(135 = 176 ∧ _) by omega), h5, im_s]
  refine ⟨_, rfl, of_i (by omega) (of_i (by show _ ∨ (176 = 176 ∧ n ≤ n ∧ n < n + 1); omega) of_refl), fr_eq, fun j hj => ?_⟩
  have hj : j = 0 := by have : j < 1 := hj; omega
  subst hj
  rw [fr_ne (by omega), fr_e (by omega)]
  rfl
theorem mp_18 (hm : m < 2147483648) : ∀ (k F : Nat), k < 10 → k + 2 ≤ F → mp_f (pr_d m k) (fn_Mo_figures_18 F (Int32.ofNat m) (Int32.ofNat (10 ^ k))) := by
  have e38 : ∀ (k F : Nat) (S : wd_S), k < 10 → fn_Mo_figures_18 (F + 1) (Int32.ofNat m) (Int32.ofNat (10 ^ k)) S = wd_d (fn_Mo_lay (48 + Int32.ofNat (m / 10 ^ k % 10)) S) (fn_Mo_figures_18 F (Int32.ofNat m) (Int32.ofNat (10 ^ k / 10))) := fun k F S hk => by
    have hp := pr_10 k hk
    have h0 : 0 < 10 ^ k := Nat.pow_pos (by decide)
    have hq : m / 10 ^ k < 2147483648 := Nat.lt_of_le_of_lt (Nat.div_le_self _ _) hm
    rw [fn_Mo_figures_18, if_pos (show (0 : Int32) < Int32.ofNat (10 ^ k) from (im_lt (m := 0) (by omega) hp).mpr h0), if_neg (fun q => by have := (im_eq (m := 10 ^ k) (n := 0) hp (by omega)).mp q; omega), im_div hm hp, im_mod hq, show (10 : Int32) = Int32.ofNat 10 from rfl, im_div hp (by decide)]
  intro k
  induction k with
  | zero =>
    intro F _ hF
    obtain ⟨F, rfl⟩ : ∃ q, F = q + 1 + 1 := ⟨F - 2, by omega⟩
    intro n S h5 hn
    obtain ⟨S', f', o'⟩ := mp_seq (mp_lay (x := 48 + Int32.ofNat (m / 10 ^ 0 % 10))) mp_nil n S h5 hn
    have e0 : m / 10 ^ 0 % 10 = m % 10 := by rw [Nat.pow_zero, Nat.div_one]
    rw [e0] at f' o'
    refine ⟨S', ?_, o'⟩
    have ez : fn_Mo_figures_18 (F + 1) (Int32.ofNat m) (Int32.ofNat (10 ^ 0 / 10)) = fun S => some S := funext fun S => by
      rw [fn_Mo_figures_18, if_neg (show ¬(0 : Int32) < Int32.ofNat (10 ^ 0 / 10) by decide)]
    rw [e38 0 (F + 1) S (by decide), e0, ez]
    exact f'
  | succ k ih =>
    intro F hk hF
    obtain ⟨F, rfl⟩ : ∃ q, F = q + 1 := ⟨F - 1, by omega⟩
    have h10 : 10 ^ (k + 1) / 10 = 10 ^ k := by rw [Nat.pow_succ, Nat.mul_div_cancel _ (by decide)]
    intro n S h5 hn
    obtain ⟨S', f', o'⟩ := mp_seq (mp_lay (x := 48 + Int32.ofNat (m / 10 ^ (k + 1) % 10))) (ih F (by omega) (by omega)) n S h5 hn
    refine ⟨S', ?_, o'⟩
    rw [e38 (k + 1) F S hk, h10]
    exact f'
theorem mp_2 (hm : m < 2147483648) : ∀ (q k F : Nat), k + q = pr_k m 9 → q < F → fn_Mo_figures_2 F (Int32.ofNat m) (Int32.ofNat (10 ^ k)) S = fn_Mo_figures_18 wd_F (Int32.ofNat m) (Int32.ofNat (10 ^ pr_k m 9)) S := by
  obtain ⟨p1, p2⟩ := pr_k_ok (n := m) 9 (by omega)
  have p3 := pr_k_le m 9
  intro q
  induction q with
  | zero =>
    intro k F hk hF
    have hk : k = pr_k m 9 := hk
    subst hk
    obtain ⟨F, rfl⟩ : ∃ q, F = q + 1 := ⟨F - 1, by omega⟩
    have hp := pr_10 (pr_k m 9) (by omega)
    have h0 : 0 < 10 ^ pr_k m 9 := Nat.pow_pos (by decide)
    have hq : m / 10 ^ pr_k m 9 < 10 := (Nat.div_lt_iff_lt_mul h0).mpr (by rw [Nat.pow_succ] at p2; omega)
    rw [fn_Mo_figures_2, if_neg (fun q => by have := (im_eq (m := 10 ^ pr_k m 9) (n := 0) hp (by omega)).mp q; omega), im_div hm hp, if_neg (show ¬(9 : Int32) < Int32.ofNat (m / 10 ^ pr_k m 9) from fun q => by have := (im_lt (m := 9) (by omega) (by omega)).mp q; omega)]
  | succ q ih =>
    intro k F hk hF
    obtain ⟨F, rfl⟩ : ∃ q, F = q + 1 := ⟨F - 1, by omega⟩
    have hp := pr_10 k (by omega)
    have h0 : 0 < 10 ^ k := Nat.pow_pos (by decide)
    have hge : 10 ^ pr_k m 9 ≤ m := by
      rcases p1 with z | z
      · omega
      · exact z
    have hle : 10 ^ (k + 1) ≤ 10 ^ pr_k m 9 := Nat.pow_le_pow_right (by decide) (by omega)
    have hle : 10 ^ k * 10 ≤ m := by rw [Nat.pow_succ] at hle; omega
    have hq : 10 ≤ m / 10 ^ k := (Nat.le_div_iff_mul_le h0).mpr (by omega)
    have hqm : m / 10 ^ k < 2147483648 := Nat.lt_of_le_of_lt (Nat.div_le_self _ _) hm
    rw [fn_Mo_figures_2, if_neg (fun q => by have := (im_eq (m := 10 ^ k) (n := 0) hp (by omega)).mp q; omega), im_div hm hp, if_pos (show (9 : Int32) < Int32.ofNat (m / 10 ^ k) from (im_lt (m := 9) (by omega) hqm).mpr (by omega)), show Int32.ofNat (10 ^ k) * (10 : Int32) = Int32.ofNat (10 ^ (k + 1)) by rw [show (10 : Int32) = Int32.ofNat 10 from rfl, ← Int32.ofNat_mul, Nat.pow_succ]]
    exact ih (k + 1) F (by omega) (by omega)
theorem mp_num (hm : m < 2147483648) : mp_f (pr_n m) (fn_Mo_figures (Int32.ofNat m)) := fun n S h5 hn => by
  have p3 := pr_k_le m 9
  obtain ⟨S', f', o'⟩ := mp_18 hm (pr_k m 9) wd_F (by omega) (by rw [show wd_F = 1000000 from rfl]; omega) n S h5 hn
  refine ⟨S', ?_, o'⟩
  have := mp_2 (S := S) hm (pr_k m 9) 0 wd_F (Nat.zero_add _) (by rw [show wd_F = 1000000 from rfl]; omega)
  have : fn_Mo_figures (Int32.ofNat m) S = fn_Mo_figures_18 wd_F (Int32.ofNat m) (Int32.ofNat (10 ^ pr_k m 9)) S := this
  rw [this, f']
theorem mp_8s {i : Int32} {F : Nat} (hi : ¬i < 0) {i' : Int32} (e' : i + -8 = i') (hk : mp_f l (fn_Mo_layAll_3 F e i')) : mp_f (pr_8c e i ++ l) (fn_Mo_layAll_3 (F + 1) e i) := fun n S h5 hn => by
  subst e'
  unfold pr_8c at hn ⊢
  rw [fn_Mo_layAll_3, if_neg hi]
  unfold fn_Mo_layAll_28
  by_cases c : ((e >>> (i.toInt64 &&& 63)) &&& 255).toInt32 = 0
  · rw [if_pos c] at hn ⊢
    rw [if_pos c]
    exact hk n S h5 hn
  · rw [if_neg c] at hn ⊢
    rw [if_neg c]
    exact mp_seq mp_lay hk n S h5 hn
theorem mp_all : mp_f (pr_8 e) (fn_Mo_layAll e) := by
  have e0 : ∀ F, mp_f [] (fn_Mo_layAll_3 (F + 1) e (-8)) := fun F n S h5 hn => by
    rw [fn_Mo_layAll_3, if_pos (show (-8 : Int32) < 0 by decide)]
    exact mp_nil n S h5 hn
  have h8 := mp_8s (i := 56) (F := 999999) (i' := 48) (e := e) (by decide) (by decide) (mp_8s (i := 48) (F := 999998) (i' := 40) (by decide) (by decide) (mp_8s (i := 40) (F := 999997) (i' := 32) (by decide) (by decide) (mp_8s (i := 32) (F := 999996) (i' := 24) (by decide) (by decide) (mp_8s (i := 24) (F := 999995) (i' := 16) (by decide) (by decide) (mp_8s (i := 16) (F := 999994) (i' := 8) (by decide) (by decide) (mp_8s (i := 8) (F := 999993) (i' := 0) (by decide) (by decide) (mp_8s (i := 0) (F := 999992) (i' := -8) (by decide) (by decide) (e0 999991))))))))
  exact h8
theorem mp_lnum {v : Int32} : mp_f (pr_i v) (fn_Mo_layNumber v) := by
  intro n S h5 hn
  unfold fn_Mo_layNumber fn_Mo_layNumber_62 fn_Mo_layNumber_73 fn_Mo_layNumber_76
  simp only [wd_d_id]
  unfold pr_i at hn ⊢
  by_cases h1 : v = -2147483648
  · rw [if_pos h1] at hn ⊢
    rw [if_pos h1]
    have hx : pr_x 20 = [40] ++ ([45] ++ (pr_n 2147483647 ++ (pr_8 539828273 ++ [41]))) := by decide +kernel
    rw [hx] at hn ⊢
    have ee : ∀ S, fn_Mo_eight 0 0 32 45 32 49 S = some (539828273, S) := fun S => by
      unfold fn_Mo_eight
      congr 2
    have h := mp_seq (mp_lay (x := 40)) (mp_seq (mp_lay (x := 45)) (mp_seq (mp_num (m := 2147483647) (by decide)) (mp_seq (mp_all (e := 539828273)) (mp_lay (x := 41))))) n S h5 hn
    obtain ⟨S', f', o'⟩ := h
    refine ⟨S', ?_, o'⟩
    rw [← f']
    simp only [ee, wd_c_s]
    rfl
  · rw [if_neg h1] at hn ⊢
    rw [if_neg h1]
    by_cases h2 : v < 0
    · rw [if_pos h2] at hn ⊢
      rw [if_pos h2]
      simp only [if_pos h2]
      have e := im_of (im_neg_n h1 h2)
      have h := mp_seq (mp_lay (x := 45)) (mp_num (im_tl (-v))) n S h5 hn
      rw [e] at h
      exact h
    · rw [if_neg h2] at hn ⊢
      rw [if_neg h2, if_neg h2]
      have h := mp_num (im_tl v) n S h5 hn
      rw [im_of h2] at h
      exact h
end Mp
end
/-! part b32 -/
section
/-! The reference's printing: tasks. -/
abbrev pm_I : Type := Int64 × Option (Nat × tr_T)
def pm_W (a b : Nat) : Prop := (a = 135 ∧ (b = 76 ∨ b = 88 ∨ b = 92)) ∨ a = 165 ∨ a = 166 ∨ a = 176 ∨ a = 177 ∨ a = 178
def pm_V (k n m a b : Nat) : Prop := (a = 135 ∧ (b = 76 ∨ b = 88 ∨ b = 92)) ∨ ((a = 165 ∨ a = 166 ∨ a = 177) ∧ k ≤ b) ∨ (a = 176 ∧ n ≤ b ∧ b < m) ∨ a = 178
def pm_h (S0 : wd_S) (pn k n : Nat) (s : pr_S) (S : wd_S) : Prop := of_f pm_W S0 S ∧ S.1 135 76 = Int32.ofNat k ∧ S.1 135 88 = Int32.ofNat n ∧ S.1 135 92 = Int32.ofNat s.1 ∧ s.1 ≤ n ∧ ∀ i j, s.2 i = some j → i < 16 ∧ S.1 178 i = Int32.ofNat j ∧ j ≤ n
def pm_R (S0 : wd_S) (pn k n : Nat) (l : List Int32) (k' : Nat) (s' : pr_S) (S S' : wd_S) : Prop := pm_h S0 pn k' (n + l.length) s' S' ∧ of_f (pm_V k n (n + l.length)) S S' ∧ ∀ j, (hj : j < l.length) → S'.1 176 (n + j) = l[j]
def pm_go (g : Nat) (S S' : wd_S) : Prop := ∀ kk F l1, fn_Mo_print_166 kk (F + g) l1 S = fn_Mo_print_166 kk F l1 S'
/-- the tasks its, the first on top, from k on -/
def pm_st (k : Nat) : List pm_I → wd_S → Prop
  | [], _ => True
  | i :: r, S => (match i.2 with
    | none => S.1 165 (k + r.length) = 1 ∧ S.2.1 177 (k + r.length) = i.1
    | some q => S.1 165 (k + r.length) = 2 ∧ S.1 166 (k + r.length) = Int32.ofNat q.1) ∧ pm_st k r S
def pr_it (self : pr_S → tr_T → pr_O) (i : pm_I) (s : pr_S) : pr_O := match i.2 with
  | none => some (pr_8 i.1, s)
  | some q => self s q.2
def pr_its (self : pr_S → tr_T → pr_O) : List pm_I → pr_S → pr_O
  | [], s => some ([], s)
  | i :: r, s => pr_b (pr_it self i s) (pr_its self r)
section Mp2
variable {pn k n m k' y z d r j g X lo hi al ah : Nat} {l l1 l2 : List Int32} {S0 S S' S1 S2 : wd_S} {t : tr_T} {s s' s1 : pr_S} {its : List pm_I} {x v : Int32} {e : Int64}
theorem pm_R_cat (h1 : pm_R S0 pn k n l1 k' s1 S S1) (h2 : pm_R S0 pn k (n + l1.length) l2 m s' S1 S2) : pm_R S0 pn k n (l1 ++ l2) m s' S S2 := by
  obtain ⟨a1, a2, a3⟩ := h1
  obtain ⟨b1, b2, b3⟩ := h2
  have el : (l1 ++ l2).length = l1.length + l2.length := List.length_append
  refine ⟨by rw [el, ← Nat.add_assoc]; exact b1, of_trans (of_mono (fun a b q => by unfold pm_V at *; omega) a2) (of_mono (fun a b q => by unfold pm_V at *; omega) b2), fun j hj => ?_⟩
  rw [el] at hj
  by_cases e : j < l1.length
  · rw [List.getElem_append_left e, b2.1 176 (n + j) (by unfold pm_V; omega)]
    exact a3 j e
  · rw [List.getElem_append_right (by omega)]
    have := b3 (j - l1.length) (by omega)
    rw [show n + l1.length + (j - l1.length) = n + j by omega] at this
    exact this
theorem pm_R_le {kk : Nat} (hk : k ≤ kk) (h : pm_R S0 pn kk n l k' s' S S') : pm_R S0 pn k n l k' s' S S' := ⟨h.1, of_mono (fun a b q => by unfold pm_V at *; omega) h.2.1, h.2.2⟩
theorem pm_t_g {g g' : Nat} (h1 : pm_go g S S1) (h2 : pm_go g' S1 S2) : pm_go (g + g') S S2 := fun kk F l1 => by rw [← h2 kk F l1, ← h1 kk (F + g') l1, Nat.add_assoc, Nat.add_comm g' g]
/-- bytes are laid -/
theorem pm_out (hp : pm_h S0 pn k n s S) (ho : mp_o n l S S') : pm_R S0 pn k n l k s S S' := by
  obtain ⟨a1, a2, a3, a4, a5, a6⟩ := hp
  refine ⟨⟨of_trans a1 (of_mono (fun a b q => by unfold pm_W; omega) ho.1), by rw [ho.1.1 135 76 (by omega)]; exact a2, ho.2.1, by rw [ho.1.1 135 92 (by omega)]; exact a4, by omega, fun i j hij => ?_⟩, of_mono (fun a b q => by unfold pm_V; omega) ho.1, ho.2.2⟩
  obtain ⟨b1, b2, b3⟩ := a6 i j hij
  exact ⟨b1, by rw [ho.1.1 178 i (by omega)]; exact b2, by omega⟩
theorem pm_st_o {kk n0 m0 : Nat} : ∀ its : List pm_I, k + its.length ≤ kk → of_f (pm_V kk n0 m0) S S' → pm_st k its S → pm_st k its S' := by
  intro its
  induction its with
  | nil => intro _ _ _; trivial
  | cons i r ih =>
    intro hk ho h
    have hk : k + (r.length + 1) ≤ kk := hk
    refine ⟨?_, ih (by omega) ho h.2⟩
    have e1 : S'.1 165 (k + r.length) = S.1 165 (k + r.length) := ho.1 165 _ (by unfold pm_V; omega)
    have e2 : S'.1 166 (k + r.length) = S.1 166 (k + r.length) := ho.1 166 _ (by unfold pm_V; omega)
    have e3 : S'.2.1 177 (k + r.length) = S.2.1 177 (k + r.length) := ho.2.1 177 _ (by unfold pm_V; omega)
    have h1 := h.1
    cases hi : i.2 with
    | none => rw [hi] at h1; exact ⟨by rw [e1]; exact h1.1, by rw [e3]; exact h1.2⟩
    | some q => rw [hi] at h1; exact ⟨by rw [e1]; exact h1.1, by rw [e2]; exact h1.2⟩
/-- a task more -/
theorem pm_px (hp : pm_h S0 pn k n s S) (hk : k < 4000) (hn : n ≤ 40000) : ∃ S', fn_Mo_later 2 (Int32.ofNat z) S = some S' ∧ pm_R S0 pn k n [] (k + 1) s S S' ∧ S'.1 165 k = 2 ∧ S'.1 166 k = Int32.ofNat z := by
  obtain ⟨a1, a2, a3, a4, a5, a6⟩ := hp
  have o := ml_o (k := k) (x := 2) (v := Int32.ofNat z) (S := S)
  refine ⟨_, mm_later a2 hk, ⟨⟨of_trans a1 (of_mono (fun a b q => by unfold pm_W; omega) o), ml_76, by rw [o.1 135 88 (by omega)]; exact a3, by rw [o.1 135 92 (by omega)]; exact a4, a5, fun i j hij => ?_⟩, of_mono (fun a b q => by unfold pm_V; omega) o, fun j hj => absurd hj (Nat.not_lt_zero _)⟩, by rw [ml_165, if_pos rfl], by rw [ml_166, if_pos rfl]⟩
  obtain ⟨b1, b2, b3⟩ := a6 i j hij
  exact ⟨b1, by rw [o.1 178 i (by omega)]; exact b2, b3⟩
theorem pm_pb (hp : pm_h S0 pn k n s S) (hk : k < 4000) (hn : n ≤ 40000) : ∃ S', fn_Mo_bytesLater e S = some S' ∧ pm_R S0 pn k n [] (k + 1) s S S' ∧ S'.1 165 k = 1 ∧ S'.2.1 177 k = e := by
  obtain ⟨a1, a2, a3, a4, a5, a6⟩ := hp
  have e2 : (wd_l S 177 k e).1 135 76 = Int32.ofNat k := by rw [fr_l2]; exact a2
  have o1 : of_f (fun a b => a = 177 ∧ b = k) S (wd_l S 177 k e) := of_l ⟨rfl, rfl⟩ of_refl
  have o2 := ml_o (k := k) (x := 1) (v := 0) (S := wd_l S 177 k e)
  have o : of_f (fun a b => (a = 135 ∧ b = 76) ∨ ((a = 165 ∨ a = 166 ∨ a = 177) ∧ b = k)) S (ml_p k 1 0 (wd_l S 177 k e)) := of_trans (of_mono (fun a b q => by omega) o1) (of_mono (fun a b q => by omega) o2)
  refine ⟨ml_p k 1 0 (wd_l S 177 k e), ?_, ⟨⟨of_trans a1 (of_mono (fun a b q => by unfold pm_W; omega) o), ml_76, by rw [o.1 135 88 (by omega)]; exact a3, by rw [o.1 135 92 (by omega)]; exact a4, a5, fun i j hij => ?_⟩, of_mono (fun a b q => by unfold pm_V; omega) o, fun j hj => absurd hj (Nat.not_lt_zero _)⟩, by rw [ml_165, if_pos rfl], ?_⟩
  · unfold fn_Mo_bytesLater fn_Mo_bytesLater_26
    simp only [wd_b, wd_d_id]
    rw [a2, if_pos (show Int32.ofNat k < 4000 from (im_lt (m := k) (n := 4000) (by omega) (by omega)).mpr hk), if_neg (ms_in hk (by decide)), im_t (show k < 2147483648 by omega), mm_later e2 hk]
  · obtain ⟨b1, b2, b3⟩ := a6 i j hij
    exact ⟨b1, by rw [o.1 178 i (by omega)]; exact b2, b3⟩
  · show (wd_l S 177 k e).2.1 177 k = e
    rw [fr_l1, if_pos ⟨rfl, rfl⟩]
/-- the top task is taken -/
theorem pm_popb (hp : pm_h S0 pn (k + 1) n s S) (hk : k < 4000) (h165 : S.1 165 k = 1) (h177 : S.2.1 177 k = e) (hn : n + (pr_8 e).length ≤ 40000) : ∃ S', pm_go 1 S S' ∧ pm_R S0 pn k n (pr_8 e) k s S S' := by
  obtain ⟨a1, a2, a3, a4, a5, a6⟩ := hp
  have o1 : of_f (fun a b => a = 135 ∧ b = 76) S (wd_i S 135 76 (Int32.ofNat k)) := of_i ⟨rfl, rfl⟩ of_refl
  have hp1 : pm_h S0 pn k n s (wd_i S 135 76 (Int32.ofNat k)) := by
    refine ⟨of_trans a1 (of_mono (fun a b q => by unfold pm_W; omega) o1), fr_eq, by rw [o1.1 135 88 (by omega)]; exact a3, by rw [o1.1 135 92 (by omega)]; exact a4, a5, fun i j hij => ?_⟩
    obtain ⟨b1, b2, b3⟩ := a6 i j hij
    exact ⟨b1, by rw [o1.1 178 i (by omega)]; exact b2, b3⟩
  obtain ⟨S2, f2, o2⟩ := mp_all (e := e) n (wd_i S 135 76 (Int32.ofNat k)) hp1.2.2.1 hn
  have r2 := pm_out hp1 o2
  refine ⟨S2, fun kk F l1 => ?_, ⟨r2.1, of_trans (of_mono (fun a b q => by unfold pm_V; omega) o1) r2.2.1, r2.2.2⟩⟩
  rw [fn_Mo_print_166, a2, if_pos (show (0 : Int32) < Int32.ofNat (k + 1) from (im_lt (m := 0) (n := k + 1) (by omega) (by omega)).mpr (by omega)), im_p]
  simp only [wd_b]
  rw [fr_eq, if_neg (ms_in hk (by decide)), im_t (show k < 2147483648 by omega), fr_ne (show ¬(165 = 135 ∧ _) by omega), h165, if_pos rfl, if_neg (ms_iy hk (by decide)), show (wd_i S 135 76 (Int32.ofNat k)).2.1 177 k = e from h177, f2, wd_d_s]
theorem pm_pope (hp : pm_h S0 pn (k + 1) n s S) (hk : k < 4000) (h165 : S.1 165 k = 2) (h166 : S.1 166 k = Int32.ofNat y) : pm_h S0 pn k n s (wd_i S 135 76 (Int32.ofNat k)) ∧ of_f (pm_V k n n) S (wd_i S 135 76 (Int32.ofNat k)) ∧ ∀ S', fn_Mo_onExpression (Int32.ofNat y) (wd_i S 135 76 (Int32.ofNat k)) = some S' → pm_go 1 S S' := by
  obtain ⟨a1, a2, a3, a4, a5, a6⟩ := hp
  have o1 : of_f (fun a b => a = 135 ∧ b = 76) S (wd_i S 135 76 (Int32.ofNat k)) := of_i ⟨rfl, rfl⟩ of_refl
  refine ⟨⟨of_trans a1 (of_mono (fun a b q => by unfold pm_W; omega) o1), fr_eq, by rw [o1.1 135 88 (by omega)]; exact a3, by rw [o1.1 135 92 (by omega)]; exact a4, a5, fun i j hij => ?_⟩, of_mono (fun a b q => by unfold pm_V; omega) o1, fun S' f' kk F l1 => ?_⟩
  · obtain ⟨b1, b2, b3⟩ := a6 i j hij
    exact ⟨b1, by rw [o1.1 178 i (by omega)]; exact b2, b3⟩
  · rw [fn_Mo_print_166, a2, if_pos (show (0 : Int32) < Int32.ofNat (k + 1) from (im_lt (m := 0) (n := k + 1) (by omega) (by omega)).mpr (by omega)), im_p]
    simp only [wd_b]
    rw [fr_eq, if_neg (ms_in hk (by decide)), im_t (show k < 2147483648 by omega), fr_ne (show ¬(165 = 135 ∧ _) by omega), h165, if_neg (show ¬(2 : Int32) = 1 by decide), if_neg (ms_iy hk (by decide)), fr_ne (show ¬(166 = 135 ∧ _) by omega), h166, f', wd_d_s]
def pm_S (S0 : wd_S) (X lo hi al ah pn r : Nat) : Prop := ∀ (k n y d : Nat) (t : tr_T) (s : pr_S) (S : wd_S) (l : List Int32) (s' : pr_S), pm_h S0 pn (k + 1) n s S → S.1 165 k = 2 → S.1 166 k = Int32.ofNat y → mj_t S0 X lo hi al ah d y t → pr pn r s t = some (l, s') → n + l.length ≤ 40000 → k + 10 * r ≤ 3900 → ∃ g S', pm_go g S S' ∧ g ≤ l.length ∧ pm_R S0 pn k n l k s' S S'
/-- tasks are done one by one -/
theorem pm_run (hS : pm_S S0 X lo hi al ah pn r) : ∀ (its : List pm_I) (n : Nat) (s : pr_S) (S : wd_S) (l : List Int32) (s' : pr_S), pm_h S0 pn (k + its.length) n s S → pm_st k its S → (∀ i, i ∈ its → match i.2 with | none => 1 ≤ (pr_8 i.1).length | some q => ∃ d, mj_t S0 X lo hi al ah d q.1 q.2) → pr_its (pr pn r) its s = some (l, s') → n + l.length ≤ 40000 → k + its.length + 10 * r ≤ 3900 → ∃ g S', pm_go g S S' ∧ g ≤ l.length ∧ pm_R S0 pn k n l k s' S S' := by
  intro its
  induction its with
  | nil =>
    intro n s S l s' hp _ _ he hn _
    cases he
    exact ⟨0, S, fun _ _ _ => rfl, Nat.le_refl _, hp, of_refl, fun j hj => absurd hj (Nat.not_lt_zero _)⟩
  | cons i r' ih =>
    intro n s S l s' hp hst hit he hn hk
    have hk : k + (r'.length + 1) + 10 * r ≤ 3900 := hk
    have hp : pm_h S0 pn (k + r'.length + 1) n s S := hp
    obtain ⟨l1, s1, l2, q1, q2, rfl⟩ := pr_b_ok he
    rw [List.length_append] at hn
    have hi := hit i List.mem_cons_self
    have h1 : ∃ g S', pm_go g S S' ∧ g ≤ l1.length ∧ pm_R S0 pn (k + r'.length) n l1 (k + r'.length) s1 S S' := by
      have hs := hst.1
      unfold pr_it at q1
      cases e2 : i.2 with
      | none =>
        rw [e2] at q1 hi hs
        cases q1
        obtain ⟨S1, g1, r1⟩ := pm_popb hp (by omega) hs.1 hs.2 (by omega)
        exact ⟨1, S1, g1, hi, r1⟩
      | some q =>
        rw [e2] at q1 hi hs
        obtain ⟨d, hd⟩ := hi
        exact hS (k + r'.length) n q.1 d q.2 s S l1 s1 hp hs.1 hs.2 hd q1 (by omega) (by omega)
    obtain ⟨g1, S1, go1, le1, r1⟩ := h1
    obtain ⟨g2, S2, go2, le2, r2⟩ := ih (n + l1.length) s1 S1 l2 s' r1.1 (pm_st_o r' (Nat.le_refl _) r1.2.1 hst.2) (fun i hi => hit i (List.mem_cons_of_mem _ hi)) q2 (by omega) (by omega)
    refine ⟨g1 + g2, S2, pm_t_g go1 go2, by rw [List.length_append]; omega, pm_R_cat (pm_R_le (Nat.le_add_right _ _) r1) r2⟩
end Mp2
end
/-! part b33 -/
section
/-! The reference's printing: trees. -/
def pm_sx (k : Int32) : Int64 := if k = 6 then 2108192 else if k = 7 then 2108704 else if k = 8 then 2107936 else if k = 9 then 2112544 else 540884256
section Mp3
variable {B pn k n m k' y z d r j g lo hi al ah i : Nat} {l l0 l1 l2 : List Int32} {S0 S S' S1 S2 : wd_S} {t : tr_T} {s s' s0 s1 : pr_S} {its : List pm_I} {x v : Int32} {e : Int64}
theorem pm_n (hp : pm_h S0 pn k n s S) : S.1 143 y = S0.1 143 y ∧ S.1 144 y = S0.1 144 y ∧ S.1 145 y = S0.1 145 y ∧ S.1 146 y = S0.1 146 y ∧ S.1 149 y = S0.1 149 y := ⟨hp.1.1 _ _ (by unfold pm_W; omega), hp.1.1 _ _ (by unfold pm_W; omega), hp.1.1 _ _ (by unfold pm_W; omega), hp.1.1 _ _ (by unfold pm_W; omega), hp.1.1 _ _ (by unfold pm_W; omega)⟩
theorem pm_pushx (hR : pm_R S0 pn k n l0 (k + its.length) s0 S1 S) (hst : pm_st k its S) (hk : k + its.length < 4000) (hn : n + l0.length ≤ 40000) (t : tr_T) : ∃ S', fn_Mo_later 2 (Int32.ofNat z) S = some S' ∧ pm_R S0 pn k n l0 (k + its.length + 1) s0 S1 S' ∧ pm_st k ((0, some (z, t)) :: its) S' := by
  obtain ⟨S', f', r', e1, e2⟩ := pm_px (z := z) hR.1 hk hn
  have := pm_R_cat hR (pm_R_le (Nat.le_add_right _ _) r')
  rw [List.append_nil] at this
  exact ⟨S', f', this, ⟨e1, e2⟩, pm_st_o its (Nat.le_refl _) r'.2.1 hst⟩
theorem pm_pushb (hR : pm_R S0 pn k n l0 (k + its.length) s0 S1 S) (hst : pm_st k its S) (hk : k + its.length < 4000) (hn : n + l0.length ≤ 40000) : ∃ S', fn_Mo_bytesLater e S = some S' ∧ pm_R S0 pn k n l0 (k + its.length + 1) s0 S1 S' ∧ pm_st k ((e, none) :: its) S' := by
  obtain ⟨S', f', r', e1, e2⟩ := pm_pb (e := e) hR.1 hk hn
  have := pm_R_cat hR (pm_R_le (Nat.le_add_right _ _) r')
  rw [List.append_nil] at this
  exact ⟨S', f', this, ⟨e1, e2⟩, pm_st_o its (Nat.le_refl _) r'.2.1 hst⟩
def pm_E (S0 : wd_S) (pn k n y : Nat) (s : pr_S) (S S1 : wd_S) : Prop := pm_h S0 pn k n s S1 ∧ of_f (pm_V k n n) S S1 ∧ ∀ S', fn_Mo_onExpression (Int32.ofNat y) S1 = some S' → pm_go 1 S S'
/-- what is laid at once, then the tasks -/
theorem pm_fin {X : Nat} (hS : pm_S S0 X lo hi al ah pn r) (hE : pm_E S0 pn k n y s S S1) (hf : fn_Mo_onExpression (Int32.ofNat y) S1 = some S2) (hR : pm_R S0 pn k n l0 (k + its.length) s0 S1 S2) (hst : pm_st k its S2) (hit : ∀ i, i ∈ its → match i.2 with | none => 1 ≤ (pr_8 i.1).length | some q => ∃ d, mj_t S0 X lo hi al ah d q.1 q.2) (he : pr_b (some (l0, s0)) (pr_its (pr pn r) its) = some (l, s')) (h0 : 1 ≤ l0.length) (hn : n + l.length ≤ 40000) (hk : k + its.length + 10 * r ≤ 3900) : ∃ g S', pm_go g S S' ∧ g ≤ l.length ∧ pm_R S0 pn k n l k s' S S' := by
  obtain ⟨la, sa, lb, q1, q2, ql⟩ := pr_b_ok he
  cases q1
  subst ql
  rw [List.length_append] at hn
  obtain ⟨g2, S3, go2, le2, r2⟩ := pm_run hS its (n + l0.length) s0 S2 lb s' hR.1 hst hit q2 (by omega) hk
  have rr := pm_R_cat hR r2
  exact ⟨1 + g2, S3, pm_t_g (hE.2.2 S2 hf) go2, by rw [List.length_append]; omega, rr.1, of_trans (of_mono (fun a b q => by unfold pm_V at *; omega) hE.2.1) rr.2.1, rr.2.2⟩
theorem pr_b_n (l : List Int32) (s : pr_S) : pr_b (some (l, s)) (fun s => some ([], s)) = some (l, s) := by
  show some (l ++ [], s) = _
  rw [List.append_nil]
theorem pr_b_0 (s : pr_S) (f : pr_S → pr_O) : pr_b (some ([], s)) f = f s := by
  unfold pr_b
  dsimp only
  cases f s with
  | none => rfl
  | some w => rfl
theorem pm_41 : pr_8 41 = [41] := by decide +kernel
theorem pm_sgn {X : Nat} (hS : pm_S S0 X lo hi al ah pn r) (hE : pm_E S0 pn k n y s S S1) (hy : y < 15010) (hk : tr_k t = 6 ∨ tr_k t = 7 ∨ tr_k t = 8 ∨ tr_k t = 9 ∨ tr_k t = 10) (h143 : S0.1 143 y = 1) (h146 : S0.1 146 y = lx_cv (tr_k t)) {z0 z1 : Nat} (h144 : S0.1 144 y = Int32.ofNat z0) (h145 : S0.1 145 y = Int32.ofNat z1) (t0 : mj_t S0 X lo hi al ah d z0 (tr_sub t 0)) (t1 : mj_t S0 X lo hi al ah d z1 (tr_sub t 1)) (hkk : k + 10 * (r + 1) ≤ 3900) (he : pr_b (some ([40], s)) (fun s => pr_b (pr pn r s (tr_sub t 0)) fun s => pr_b (some (pr_x (pr_sx (tr_k t)), s)) fun s => pr_b (pr pn r s (tr_sub t 1)) fun s => some ([41], s)) = some (l, s')) (hn : n + l.length ≤ 40000) : ∃ g S', pm_go g S S' ∧ g ≤ l.length ∧ pm_R S0 pn k n l k s' S S' := by
  have hp := hE.1
  have hn0 : n + 1 ≤ 40000 := by
    obtain ⟨la, sa, lb, q1, q2, ql⟩ := pr_b_ok he
    cases q1
    rw [ql, List.length_append] at hn
    have : ([40] : List Int32).length = 1 := rfl
    omega
  obtain ⟨Sa, fa, oa⟩ := mp_lay (x := 40) n S1 hp.2.2.1 hn0
  have ra := pm_out hp oa
  obtain ⟨Sb, fb, rb, sb⟩ := pm_pushb (e := 41) (its := []) ra trivial (by show k + 0 < 4000; omega) hn0
  obtain ⟨Sc, fc, rc, sc⟩ := pm_pushx (z := z1) rb sb (by show k + 1 < 4000; omega) hn0 (tr_sub t 1)
  obtain ⟨Sd, fd, rd, sd⟩ := pm_pushb (e := pm_sx (tr_k t)) rc sc (by show k + 2 < 4000; omega) hn0
  obtain ⟨Se, fe, re, se⟩ := pm_pushx (z := z0) rd sd (by show k + 3 < 4000; omega) hn0 (tr_sub t 0)
  obtain ⟨n3, n4, n5, n6, -⟩ := pm_n (y := y) hp
  have hx8 : pr_8 (pm_sx (tr_k t)) = pr_x (pr_sx (tr_k t)) ∧ 1 ≤ (pr_8 (pm_sx (tr_k t))).length := by
    rcases hk with z | z | z | z | z <;> rw [z] <;> decide +kernel
  have ecode : fn_Mo_onExpression (Int32.ofNat y) S1 = some Se := by
    have e213 : fn_Mo_onExpression_213 (Int32.ofNat y) (pm_sx (tr_k t)) Sc = some Se := by
      unfold fn_Mo_onExpression_213 fn_Mo_onExpression_533
      rw [fd, wd_d_s, if_neg (ms_in hy (by decide)), im_t (show y < 2147483648 by omega), (pm_n (y := y) rd.1).2.1, h144, fe, wd_d_s]
    unfold fn_Mo_onExpression
    rw [if_neg (ms_in hy (by decide)), im_t (show y < 2147483648 by omega), n3, h143, if_pos rfl, if_neg (ms_iy hy (by decide)), fa, wd_d_s, fb, wd_d_s, if_neg (ms_iy hy (by decide)), (pm_n (y := y) rb.1).2.2.1, h145, fc, wd_d_s, n6, h146, ← e213]
    unfold fn_Mo_onExpression_208
    rcases hk with z | z | z | z | z <;> rw [z] <;> rfl
  refine pm_fin hS hE ecode re se (fun i hi => ?_) ?_ (by decide : 1 ≤ ([40] : List Int32).length) hn (by show k + 4 + 10 * r ≤ 3900; omega)
  · simp only [List.mem_cons, List.not_mem_nil, or_false] at hi
    rcases hi with rfl | rfl | rfl | rfl
    · exact ⟨d, t0⟩
    · exact hx8.2
    · exact ⟨d, t1⟩
    · show 1 ≤ (pr_8 41).length
      rw [pm_41]
      decide
  · rw [← he]
    show pr_b (some ([40], s)) (fun s => pr_b (pr pn r s (tr_sub t 0)) fun s => pr_b (some (pr_8 (pm_sx (tr_k t)), s)) fun s => pr_b (pr pn r s (tr_sub t 1)) fun s => pr_b (some (pr_8 41, s)) fun s => some ([], s)) = _
    rw [hx8.1, pm_41]
    simp only [pr_b_n]
theorem pm_if {X : Nat} (hS : pm_S S0 X lo hi al ah pn r) (hE : pm_E S0 pn k n y s S S1) (hy : y < 15010) (h143 : S0.1 143 y = 2) {z0 z1 z2 : Nat} (h144 : S0.1 144 y = Int32.ofNat z0) (h145 : S0.1 145 y = Int32.ofNat z1) (h146 : S0.1 146 y = Int32.ofNat z2) (t0 : mj_t S0 X lo hi al ah d z0 (tr_sub t 0)) (t1 : mj_t S0 X lo hi al ah d z1 (tr_sub t 1)) (t2 : mj_t S0 X lo hi al ah d z2 (tr_sub t 2)) (hkk : k + 10 * (r + 1) ≤ 3900) (he : pr_b (some (pr_x 24, s)) (fun s => pr_b (pr pn r s (tr_sub t 0)) fun s => pr_b (some (pr_x 25, s)) fun s => pr_b (pr pn r s (tr_sub t 1)) fun s => pr_b (some (pr_x 26, s)) fun s => pr_b (pr pn r s (tr_sub t 2)) fun s => some ([41], s)) = some (l, s')) (hn : n + l.length ≤ 40000) : ∃ g S', pm_go g S S' ∧ g ≤ l.length ∧ pm_R S0 pn k n l k s' S S' := by
  have hp := hE.1
  have x24 : pr_8 677996064 = pr_x 24 := by decide +kernel
  have x25 : pr_8 35684339772960 = pr_x 25 := by decide +kernel
  have x26 : pr_8 35619983287584 = pr_x 26 := by decide +kernel
  have hn0 : n + (pr_x 24).length ≤ 40000 := by
    obtain ⟨la, sa, lb, q1, q2, ql⟩ := pr_b_ok he
    cases q1
    rw [ql, List.length_append] at hn
    omega
  obtain ⟨Sa, fa, oa⟩ := mp_all (e := 677996064) n S1 hp.2.2.1 (by rw [x24]; exact hn0)
  rw [x24] at oa
  have ra := pm_out hp oa
  obtain ⟨Sb, fb, rb, sb⟩ := pm_pushb (e := 41) (its := []) ra trivial (by show k + 0 < 4000; omega) hn0
  obtain ⟨Sc, fc, rc, sc⟩ := pm_pushx (z := z2) rb sb (by show k + 1 < 4000; omega) hn0 (tr_sub t 2)
  obtain ⟨Sd, fd, rd, sd⟩ := pm_pushb (e := 35619983287584) rc sc (by show k + 2 < 4000; omega) hn0
  obtain ⟨Se, fe, re, se⟩ := pm_pushx (z := z1) rd sd (by show k + 3 < 4000; omega) hn0 (tr_sub t 1)
  obtain ⟨Sf, ff, rf, sf⟩ := pm_pushb (e := 35684339772960) re se (by show k + 4 < 4000; omega) hn0
  obtain ⟨Sg, fg, rg, sg⟩ := pm_pushx (z := z0) rf sf (by show k + 5 < 4000; omega) hn0 (tr_sub t 0)
  obtain ⟨n3, n4, n5, n6, -⟩ := pm_n (y := y) hp
  have a24 : ∀ S, fn_Mo_eight 0 0 40 105 102 32 S = some (677996064, S) := fun S => by unfold fn_Mo_eight; congr 2
  have a25 : ∀ S, fn_Mo_eight 32 116 104 101 110 32 S = some (35684339772960, S) := fun S => by unfold fn_Mo_eight; congr 2
  have a26 : ∀ S, fn_Mo_eight 32 101 108 115 101 32 S = some (35619983287584, S) := fun S => by unfold fn_Mo_eight; congr 2
  have ecode : fn_Mo_onExpression (Int32.ofNat y) S1 = some Sg := by
    unfold fn_Mo_onExpression fn_Mo_onExpression_533
    rw [if_neg (ms_in hy (by decide)), im_t (show y < 2147483648 by omega), n3, h143, if_neg (show ¬(2 : Int32) = 1 by decide), if_pos rfl, a24, wd_c_s, fa, wd_d_s, fb, wd_d_s, if_neg (ms_iy hy (by decide)), (pm_n (y := y) rb.1).2.2.2.1, h146, fc, wd_d_s, a26, wd_c_s, fd, wd_d_s, if_neg (ms_iy hy (by decide)), (pm_n (y := y) rd.1).2.2.1, h145, fe, wd_d_s, a25, wd_c_s, ff, wd_d_s, if_neg (ms_iy hy (by decide)), (pm_n (y := y) rf.1).2.1, h144, fg, wd_d_s]
  refine pm_fin hS hE ecode rg sg (fun i hi => ?_) ?_ (by decide) hn (by show k + 6 + 10 * r ≤ 3900; omega)
  · simp only [List.mem_cons, List.not_mem_nil, or_false] at hi
    rcases hi with rfl | rfl | rfl | rfl | rfl | rfl
    · exact ⟨d, t0⟩
    · show 1 ≤ (pr_8 35684339772960).length
      rw [x25]; decide
    · exact ⟨d, t1⟩
    · show 1 ≤ (pr_8 35619983287584).length
      rw [x26]; decide
    · exact ⟨d, t2⟩
    · show 1 ≤ (pr_8 41).length
      rw [pm_41]; decide
  · rw [← he]
    show pr_b (some (pr_x 24, s)) (fun s => pr_b (pr pn r s (tr_sub t 0)) fun s => pr_b (some (pr_8 35684339772960, s)) fun s => pr_b (pr pn r s (tr_sub t 1)) fun s => pr_b (some (pr_8 35619983287584, s)) fun s => pr_b (pr pn r s (tr_sub t 2)) fun s => pr_b (some (pr_8 41, s)) fun s => some ([], s)) = _
    rw [x25, x26, pm_41]
    simp only [pr_b_n]
end Mp3
end
/-! part b34 -/
section
/-! The reference's printing: lets, calls, leaves. -/
def pm_al (zs : Nat → Nat) (t : tr_T) : Nat → Nat → List pm_I
  | 0, _ => [(41, none)]
  | r + 1, j => if j = 0 then (0, some (zs j, tr_sub t j)) :: pm_al zs t r (j + 1) else (11296, none) :: (0, some (zs j, tr_sub t j)) :: pm_al zs t r (j + 1)
section Mp4
variable {B pn k n m k' y z d r j g lo hi al ah i X a : Nat} {l l0 l1 l2 : List Int32} {S0 S S' S1 S2 : wd_S} {t : tr_T} {s s' s0 s1 : pr_S} {its : List pm_I} {x v : Int32} {e : Int64} {zs : Nat → Nat}
theorem pm_w178 (hp : pm_h S0 pn k n s S) (hi : i < 16) : pm_R S0 pn k n [] k (s.1, pr_u s.2 i s.1) S (wd_i S 178 i (Int32.ofNat s.1)) := by
  obtain ⟨a1, a2, a3, a4, a5, a6⟩ := hp
  have o1 : of_f (fun a b => a = 178 ∧ b = i) S (wd_i S 178 i (Int32.ofNat s.1)) := of_i ⟨rfl, rfl⟩ of_refl
  refine ⟨⟨of_trans a1 (of_mono (fun a b q => by unfold pm_W; omega) o1), by rw [o1.1 135 76 (by omega)]; exact a2, by rw [o1.1 135 88 (by omega)]; exact a3, by rw [o1.1 135 92 (by omega)]; exact a4, a5, fun i' j hij => ?_⟩, of_mono (fun a b q => by unfold pm_V; omega) o1, fun j hj => absurd hj (Nat.not_lt_zero _)⟩
  have hij : pr_u s.2 i s.1 i' = some j := hij
  unfold pr_u at hij
  by_cases e : i' = i
  · rw [if_pos e] at hij
    cases hij
    subst e
    exact ⟨hi, fr_eq, a5⟩
  · rw [if_neg e] at hij
    obtain ⟨b1, b2, b3⟩ := a6 i' j hij
    exact ⟨b1, by rw [o1.1 178 i' (by omega)]; exact b2, b3⟩
theorem pm_w92 (hp : pm_h S0 pn k n s S) (hs : s.1 + 1 ≤ n) : pm_R S0 pn k n [] k (s.1 + 1, s.2) S (wd_i S 135 92 (Int32.ofNat (s.1 + 1))) := by
  obtain ⟨a1, a2, a3, a4, a5, a6⟩ := hp
  have o1 : of_f (fun a b => a = 135 ∧ b = 92) S (wd_i S 135 92 (Int32.ofNat (s.1 + 1))) := of_i ⟨rfl, rfl⟩ of_refl
  refine ⟨⟨of_trans a1 (of_mono (fun a b q => by unfold pm_W; omega) o1), by rw [o1.1 135 76 (by omega)]; exact a2, by rw [o1.1 135 88 (by omega)]; exact a3, fr_eq, hs, fun i' j hij => ?_⟩, of_mono (fun a b q => by unfold pm_V; omega) o1, fun j hj => absurd hj (Nat.not_lt_zero _)⟩
  obtain ⟨b1, b2, b3⟩ := a6 i' j hij
  exact ⟨b1, by rw [o1.1 178 i' (by omega)]; exact b2, b3⟩
theorem pr_n_1 (n : Nat) : 1 ≤ (pr_n n).length := by
  unfold pr_n
  rw [pr_d_l]
  omega
theorem pr_i_1 (v : Int32) : 1 ≤ (pr_i v).length := by
  unfold pr_i
  split
  · decide
  · split
    · show 1 ≤ (pr_n _).length + 1
      omega
    · exact pr_n_1 _
theorem pm_let (hS : pm_S S0 X lo hi al ah pn r) (hE : pm_E S0 pn k n y s S S1) (hy : y < 15010) (h143 : S0.1 143 y = 3) {z0 z1 : Nat} (h144 : S0.1 144 y = Int32.ofNat z0) (h145 : S0.1 145 y = Int32.ofNat z1) (h146 : S0.1 146 y = Int32.ofNat i) (hi16 : i < 16) (t0 : mj_t S0 X lo hi al ah d z0 (tr_sub t 0)) (t1 : mj_t S0 X lo hi al ah d z1 (tr_sub t 1)) (hkk : k + 10 * (r + 1) ≤ 3900) (he : pr_b (some (pr_x 21 ++ pr_n s.1 ++ pr_x 22, s.1 + 1, pr_u s.2 i s.1)) (fun s => pr_b (pr pn r s (tr_sub t 0)) fun s => pr_b (some (pr_x 23, s)) fun s => pr_b (pr pn r s (tr_sub t 1)) fun s => some ([41], s)) = some (l, s')) (hn : n + l.length ≤ 40000) : ∃ g S', pm_go g S S' ∧ g ≤ l.length ∧ pm_R S0 pn k n l k s' S S' := by
  have hp := hE.1
  have x21 : pr_8 44446023688312 = pr_x 21 := by decide +kernel
  have x22 : pr_8 2112800 = pr_x 22 := by decide +kernel
  have x23 : pr_8 543780384 = pr_x 23 := by decide +kernel
  have l21 : (pr_x 21).length = 6 := by decide +kernel
  have l22 : (pr_x 22).length = 3 := by decide +kernel
  have hs1 := hp.2.2.2.2.1
  have hn0 : n + (6 + (pr_n s.1).length + 3) ≤ 40000 := by
    obtain ⟨la, sa, lb, q1, q2, ql⟩ := pr_b_ok he
    cases q1
    rw [ql, List.length_append, List.length_append, List.length_append, l21, l22] at hn
    omega
  have ra := pm_w178 (i := i) hp hi16
  obtain ⟨Sb, fb, ob⟩ := mp_all (e := 44446023688312) n (wd_i S1 178 i (Int32.ofNat s.1)) ra.1.2.2.1 (by rw [x21, l21]; omega)
  rw [x21] at ob
  have rb := pm_R_cat ra (pm_out ra.1 ob)
  rw [List.nil_append] at rb
  obtain ⟨Sc, fc, oc⟩ := mp_num (m := s.1) (by omega) (n + (pr_x 21).length) Sb rb.1.2.2.1 (by rw [l21]; omega)
  have rc := pm_R_cat rb (pm_out rb.1 oc)
  have rd := pm_R_cat rc (pm_w92 rc.1 (by rw [List.length_append, l21]; show s.1 + 1 ≤ _; omega))
  rw [List.append_nil] at rd
  obtain ⟨Se, fe, oe⟩ := mp_all (e := 2112800) (n + (pr_x 21 ++ pr_n s.1).length) _ rd.1.2.2.1 (by rw [x22, l22, List.length_append, l21]; omega)
  rw [x22] at oe
  have re := pm_R_cat rd (pm_out rd.1 oe)
  have hn1 : n + (pr_x 21 ++ pr_n s.1 ++ pr_x 22).length ≤ 40000 := by
    rw [List.length_append, List.length_append, l21, l22]
    omega
  obtain ⟨Sf, ff, rf, sf⟩ := pm_pushb (e := 41) (its := []) re trivial (by show k + 0 < 4000; omega) hn1
  obtain ⟨Sg, fg, rg, sg⟩ := pm_pushx (z := z1) rf sf (by show k + 1 < 4000; omega) hn1 (tr_sub t 1)
  obtain ⟨Sh, fh, rh, sh⟩ := pm_pushb (e := 543780384) rg sg (by show k + 2 < 4000; omega) hn1
  obtain ⟨Si, fi, ri, si⟩ := pm_pushx (z := z0) rh sh (by show k + 3 < 4000; omega) hn1 (tr_sub t 0)
  obtain ⟨n3, n4, n5, n6, -⟩ := pm_n (y := y) hp
  have a21 : ∀ S, fn_Mo_eight 40 108 101 116 32 120 S = some (44446023688312, S) := fun S => by unfold fn_Mo_eight; congr 2
  have a22 : ∀ S, fn_Mo_eight 0 0 0 32 61 32 S = some (2112800, S) := fun S => by unfold fn_Mo_eight; congr 2
  have a23 : ∀ S, fn_Mo_eight 0 0 32 105 110 32 S = some (543780384, S) := fun S => by unfold fn_Mo_eight; congr 2
  have b92 : Sb.1 135 92 = Int32.ofNat s.1 := rb.1.2.2.2.1
  have c92 : Sc.1 135 92 = Int32.ofNat s.1 := rc.1.2.2.2.1
  have ecode : fn_Mo_onExpression (Int32.ofNat y) S1 = some Si := by
    unfold fn_Mo_onExpression fn_Mo_onExpression_533
    simp only [wd_b]
    rw [if_neg (ms_in hy (by decide)), im_t (show y < 2147483648 by omega), n3, h143, if_neg (show ¬(3 : Int32) = 1 by decide), if_neg (show ¬(3 : Int32) = 2 by decide), if_pos rfl, if_neg (ms_iy hy (by decide)), n6, h146, if_neg (ms_in hi16 (by decide)), im_t (show i < 2147483648 by omega), hp.2.2.2.1, a21, wd_c_s, fb, wd_d_s, b92, fc, wd_d_s, c92, im_s, a22, wd_c_s, fe, wd_d_s, ff, wd_d_s, if_neg (ms_iy hy (by decide)), (pm_n (y := y) rf.1).2.2.1, h145, fg, wd_d_s, a23, wd_c_s, fh, wd_d_s, if_neg (ms_iy hy (by decide)), (pm_n (y := y) rh.1).2.1, h144, fi, wd_d_s]
  refine pm_fin hS hE ecode ri si (fun i hi => ?_) ?_ (by rw [List.length_append, List.length_append, l21]; omega) hn (by show k + 4 + 10 * r ≤ 3900; omega)
  · simp only [List.mem_cons, List.not_mem_nil, or_false] at hi
    rcases hi with rfl | rfl | rfl | rfl
    · exact ⟨d, t0⟩
    · show 1 ≤ (pr_8 543780384).length
      rw [x23]; decide
    · exact ⟨d, t1⟩
    · show 1 ≤ (pr_8 41).length
      rw [pm_41]; decide
  · rw [← he]
    show pr_b (some (pr_x 21 ++ pr_n s.1 ++ pr_x 22, s.1 + 1, pr_u s.2 i s.1)) (fun s => pr_b (pr pn r s (tr_sub t 0)) fun s => pr_b (some (pr_8 543780384, s)) fun s => pr_b (pr pn r s (tr_sub t 1)) fun s => pr_b (some (pr_8 41, s)) fun s => some ([], s)) = _
    rw [x23, pm_41]
    simp only [pr_b_n]
theorem pm_al_l : ∀ r j, (pm_al zs t r j).length ≤ 2 * r + 1 := by
  intro r
  induction r with
  | zero => intro j; exact Nat.le_refl 1
  | succ r ih =>
    intro j
    have := ih (j + 1)
    unfold pm_al
    split
    · show (pm_al zs t r (j + 1)).length + 1 ≤ _
      omega
    · show (pm_al zs t r (j + 1)).length + 1 + 1 ≤ _
      omega
theorem pm_17 : pr_8 11296 = pr_x 17 := by decide +kernel
theorem pm_al_p : ∀ q j s, pr_its (pr pn r) (pm_al zs t q j) s = pr_as (pr pn r) t q j s := by
  intro q
  induction q with
  | zero =>
    intro j s
    show pr_b (some (pr_8 41, s)) (fun s => some ([], s)) = some ([41], s)
    rw [pr_b_n, pm_41]
  | succ q ih =>
    intro j s
    have e : pr_its (pr pn r) (pm_al zs t q (j + 1)) = pr_as (pr pn r) t q (j + 1) := funext fun s => ih (j + 1) s
    unfold pm_al pr_as
    by_cases h : j = 0
    · rw [if_pos h, if_pos h, pr_b_0]
      show pr_b (pr pn r s (tr_sub t j)) (pr_its (pr pn r) (pm_al zs t q (j + 1))) = _
      rw [e]
    · rw [if_neg h, if_neg h]
      show pr_b (some (pr_8 11296, s)) (fun s => pr_b (pr pn r s (tr_sub t j)) (pr_its (pr pn r) (pm_al zs t q (j + 1)))) = _
      rw [e, pm_17]
theorem pm_al_i (hz : ∀ j, j < a → ∃ d, mj_t S0 X lo hi al ah d (zs j) (tr_sub t j)) : ∀ q j, q + j = a → ∀ i, i ∈ pm_al zs t q j → match i.2 with | none => 1 ≤ (pr_8 i.1).length | some q => ∃ d, mj_t S0 X lo hi al ah d q.1 q.2 := by
  intro q
  induction q with
  | zero =>
    intro j hj i hi
    have hi : i ∈ [((41 : Int64), (none : Option (Nat × tr_T)))] := hi
    simp only [List.mem_cons, List.not_mem_nil, or_false] at hi
    subst hi
    show 1 ≤ (pr_8 41).length
    rw [pm_41]; decide
  | succ q ih =>
    intro j hj i hi
    unfold pm_al at hi
    by_cases h : j = 0
    · rw [if_pos h, List.mem_cons] at hi
      rcases hi with rfl | hi
      · exact hz j (by omega)
      · exact ih (j + 1) (by omega) i hi
    · rw [if_neg h, List.mem_cons, List.mem_cons] at hi
      rcases hi with rfl | rfl | hi
      · show 1 ≤ (pr_8 11296).length
        rw [pm_17]; decide
      · exact hz j (by omega)
      · exact ih (j + 1) (by omega) i hi
theorem pm_486 (hy : y < 15010) (ha : a ≤ 4) (h144 : S0.1 144 y = Int32.ofNat g) (hg : g + a ≤ 15010) (h149 : ∀ j, j < a → S0.1 149 (g + j) = Int32.ofNat (zs j)) (hk : k + 9 < 4000) (hn : n + l0.length ≤ 40000) : ∀ (q p F : Nat) (S : wd_S), q + p = a → q < F → pm_R S0 pn k n l0 (k + (pm_al zs t p q).length) s0 S1 S → pm_st k (pm_al zs t p q) S → ∃ S', fn_Mo_onExpression_486 F (Int32.ofNat y) (Int32.ofNat q - 1) S = some S' ∧ pm_R S0 pn k n l0 (k + (pm_al zs t a 0).length) s0 S1 S' ∧ pm_st k (pm_al zs t a 0) S' := by
  intro q
  induction q with
  | zero =>
    intro p F S hp hF hR hst
    obtain ⟨F, rfl⟩ : ∃ f, F = f + 1 := ⟨F - 1, by omega⟩
    rw [show p = a by omega] at hR hst
    refine ⟨S, ?_, hR, hst⟩
    rw [fn_Mo_onExpression_486, if_pos (show Int32.ofNat 0 - 1 < 0 by decide)]
    rfl
  | succ q ih =>
    intro p F S hp hF hR hst
    obtain ⟨F, rfl⟩ : ∃ f, F = f + 1 := ⟨F - 1, by omega⟩
    have hl := pm_al_l (zs := zs) (t := t) p (q + 1)
    have ea : Int32.ofNat g + Int32.ofNat q = Int32.ofNat (g + q) := (Int32.ofNat_add g q).symm
    obtain ⟨Sa, fa, ra, sa⟩ := pm_pushx (z := zs q) hR hst (by omega) hn (tr_sub t q)
    have er : Int32.ofNat q + -1 = Int32.ofNat q - 1 := by rw [Int32.sub_eq_add_neg]
    rw [fn_Mo_onExpression_486, im_p, if_neg (im_neg (by omega)), if_neg (ms_in hy (by decide)), im_t (show y < 2147483648 by omega), (pm_n (y := y) hR.1).2.1, h144, ea, if_neg (ms_in (show g + q < 15010 by omega) (by decide)), im_t (show g + q < 2147483648 by omega), (pm_n (y := g + q) hR.1).2.2.2.2, h149 q (by omega), fa, wd_d_s]
    unfold fn_Mo_onExpression_527
    rw [er]
    have a17 : ∀ S, fn_Mo_eight 0 0 0 0 44 32 S = some (11296, S) := fun S => by unfold fn_Mo_eight; congr 2
    by_cases h : q = 0
    · rw [if_neg (show ¬(0 : Int32) < Int32.ofNat q by rw [h]; decide)]
      have e : pm_al zs t (p + 1) q = (0, some (zs q, tr_sub t q)) :: pm_al zs t p (q + 1) := by rw [pm_al, if_pos h]
      exact ih (p + 1) F Sa (by omega) (by omega) (by rw [e]; exact ra) (by rw [e]; exact sa)
    · rw [if_pos (show (0 : Int32) < Int32.ofNat q from (im_lt (m := 0) (n := q) (by omega) (by omega)).mpr (by omega)), a17, wd_c_s]
      obtain ⟨Sb, fb, rb, sb⟩ := pm_pushb (e := 11296) ra sa (by show k + ((pm_al zs t p (q + 1)).length + 1) < 4000; omega) hn
      rw [fb, wd_d_s]
      have e : pm_al zs t (p + 1) q = (11296, none) :: (0, some (zs q, tr_sub t q)) :: pm_al zs t p (q + 1) := by rw [pm_al, if_neg h]
      exact ih (p + 1) F Sb (by omega) (by omega) (by rw [e]; exact rb) (by rw [e]; exact sb)
theorem pm_call (hS : pm_S S0 (80 * B) lo hi al ah pn r) (hB : B ≤ 1) (hE : pm_E S0 pn k n y s S S1) (hy : y < 15010) (h143 : S0.1 143 y = 8) (h144 : S0.1 144 y = Int32.ofNat g) (h145 : S0.1 145 y = Int32.ofNat a) (h146 : S0.1 146 y = Int32.ofNat (80 * B + i)) (hi78 : i < 78) (ha : a ≤ 4) (hg : g + a ≤ 15010) (h149 : ∀ j, j < a → S0.1 149 (g + j) = Int32.ofNat (zs j)) (hz : ∀ j, j < a → ∃ d, mj_t S0 (80 * B) lo hi al ah d (zs j) (tr_sub t j)) (hkk : k + 10 * (r + 1) ≤ 3900) (he : pr_b (some (118 :: pr_n i ++ [40], s)) (fun s => pr_as (pr pn r) t a 0 s) = some (l, s')) (hn : n + l.length ≤ 40000) : ∃ g S', pm_go g S S' ∧ g ≤ l.length ∧ pm_R S0 pn k n l k s' S S' := by
  have hp := hE.1
  have e0 : (118 :: pr_n i ++ [40] : List Int32).length = (pr_n i).length + 2 := by rw [List.length_append]; rfl
  have hn0 : n + ((pr_n i).length + 2) ≤ 40000 := by
    obtain ⟨la, sa, lb, q1, q2, ql⟩ := pr_b_ok he
    cases q1
    rw [ql, List.length_append, e0] at hn
    omega
  obtain ⟨Sa, fa, oa⟩ := mp_lay (x := 118) n S1 hp.2.2.1 (by show n + 1 ≤ 40000; omega)
  have ra := pm_out hp oa
  obtain ⟨Sb, fb, ob⟩ := mp_num (m := i) (by omega) (n + [(118 : Int32)].length) Sa ra.1.2.2.1 (by show n + 1 + _ ≤ 40000; omega)
  have rb := pm_R_cat ra (pm_out ra.1 ob)
  obtain ⟨Sc, fc, oc⟩ := mp_lay (x := 40) (n + ([(118 : Int32)] ++ pr_n i).length) Sb rb.1.2.2.1 (by show n + ((pr_n i).length + 1) + 1 ≤ 40000; omega)
  have rc : pm_R S0 pn k n (118 :: pr_n i ++ [40]) k s S1 Sc := pm_R_cat rb (pm_out rb.1 oc)
  have hn1 : n + (118 :: pr_n i ++ [40] : List Int32).length ≤ 40000 := by rw [e0]; omega
  obtain ⟨Sd, fd, rd, sd⟩ := pm_pushb (e := 41) (its := []) rc trivial (by show k + 0 < 4000; omega) hn1
  obtain ⟨Se, fe, re, se⟩ := pm_486 (zs := zs) (t := t) hy ha h144 hg h149 (by omega) hn1 a 0 wd_F Sd rfl (by rw [show wd_F = 1000000 from rfl]; omega) rd sd
  obtain ⟨n3, n4, n5, n6, -⟩ := pm_n (y := y) hp
  have e80 : Int32.ofNat (80 * B + i) - Int32.ofNat (80 * B + i) / 80 * 80 = Int32.ofNat i := by
    rw [im_m80 (by omega)]
    congr 1
    omega
  have ecode : fn_Mo_onExpression (Int32.ofNat y) S1 = some Se := by
    unfold fn_Mo_onExpression
    rw [if_neg (ms_in hy (by decide)), im_t (show y < 2147483648 by omega), n3, h143, if_neg (show ¬(8 : Int32) = 1 by decide), if_neg (show ¬(8 : Int32) = 2 by decide), if_neg (show ¬(8 : Int32) = 3 by decide), if_neg (show ¬(8 : Int32) = 4 by decide), if_neg (show ¬(8 : Int32) = 5 by decide), if_neg (show ¬(8 : Int32) = 6 by decide), if_neg (show ¬(8 : Int32) = 7 by decide), fa, wd_d_s, if_neg (ms_iy hy (by decide)), (pm_n (y := y) ra.1).2.2.2.1, h146, e80, fb, wd_d_s, fc, wd_d_s, fd, wd_d_s, if_neg (ms_iy hy (by decide)), (pm_n (y := y) rd.1).2.2.1, h145, fe]
  have hl := pm_al_l (zs := zs) (t := t) a 0
  refine pm_fin hS hE ecode re se (pm_al_i hz a 0 rfl) ?_ (by rw [e0]; omega) hn (by omega)
  rw [← he]
  congr 1
  funext s
  exact pm_al_p a 0 s
theorem pm_num (hS : pm_S S0 X lo hi al ah pn r) (hE : pm_E S0 pn k n y s S S1) (hy : y < 15010) (h143 : S0.1 143 y = 5) (h144 : S0.1 144 y = v) (hkk : k + 10 * (r + 1) ≤ 3900) (he : some (pr_i v, s) = some (l, s')) (hn : n + l.length ≤ 40000) : ∃ g S', pm_go g S S' ∧ g ≤ l.length ∧ pm_R S0 pn k n l k s' S S' := by
  cases he
  have hp := hE.1
  obtain ⟨Sa, fa, oa⟩ := mp_lnum (v := v) n S1 hp.2.2.1 hn
  have ra := pm_out hp oa
  obtain ⟨n3, n4, n5, n6, -⟩ := pm_n (y := y) hp
  refine pm_fin (its := []) hS hE (S2 := Sa) ?_ ra trivial (fun i hi => absurd hi List.not_mem_nil) (pr_b_n _ _) (pr_i_1 v) hn (by show k + 0 + 10 * r ≤ 3900; omega)
  unfold fn_Mo_onExpression fn_Mo_onExpression_533
  rw [if_neg (ms_in hy (by decide)), im_t (show y < 2147483648 by omega), n3, h143, if_neg (show ¬(5 : Int32) = 1 by decide), if_neg (show ¬(5 : Int32) = 2 by decide), if_neg (show ¬(5 : Int32) = 3 by decide), if_neg (show ¬(5 : Int32) = 4 by decide), if_pos rfl, if_neg (ms_iy hy (by decide)), n4, h144, fa, wd_d_s]
theorem pm_name (hS : pm_S S0 X lo hi al ah pn r) (h93 : S0.1 135 93 = Int32.ofNat pn) (hpn : pn ≤ 16) (hE : pm_E S0 pn k n y s S S1) (hy : y < 15010) (h143 : S0.1 143 y = 7) (h144 : S0.1 144 y = Int32.ofNat i) (hi16 : i < 16) (hkk : k + 10 * (r + 1) ≤ 3900) (he : (if i < pn then some ([97 + Int32.ofNat i], s) else match s.2 i with
    | none => none
    | some j => some (120 :: pr_n j, s)) = some (l, s')) (hn : n + l.length ≤ 40000) : ∃ g S', pm_go g S S' ∧ g ≤ l.length ∧ pm_R S0 pn k n l k s' S S' := by
  have hp := hE.1
  obtain ⟨n3, n4, n5, n6, -⟩ := pm_n (y := y) hp
  have p93 : S1.1 135 93 = Int32.ofNat pn := by rw [hp.1.1 135 93 (by unfold pm_W; omega)]; exact h93
  by_cases h : i < pn
  · rw [if_pos h] at he
    cases he
    obtain ⟨Sa, fa, oa⟩ := mp_lay (x := 97 + Int32.ofNat i) n S1 hp.2.2.1 hn
    have ra := pm_out hp oa
    refine pm_fin (its := []) hS hE (S2 := Sa) ?_ ra trivial (fun i hi => absurd hi List.not_mem_nil) (pr_b_n _ _) (by show 1 ≤ 1; omega) hn (by show k + 0 + 10 * r ≤ 3900; omega)
    unfold fn_Mo_onExpression fn_Mo_onExpression_533
    rw [if_neg (ms_in hy (by decide)), im_t (show y < 2147483648 by omega), n3, h143, if_neg (show ¬(7 : Int32) = 1 by decide), if_neg (show ¬(7 : Int32) = 2 by decide), if_neg (show ¬(7 : Int32) = 3 by decide), if_neg (show ¬(7 : Int32) = 4 by decide), if_neg (show ¬(7 : Int32) = 5 by decide), if_neg (show ¬(7 : Int32) = 6 by decide), if_pos rfl, if_neg (ms_iy hy (by decide)), n4, h144, p93, if_pos ((im_lt (by omega) (by omega)).mpr h), if_neg (ms_iy hy (by decide)), fa, wd_d_s]
  · rw [if_neg h] at he
    cases hj : s.2 i with
    | none => rw [hj] at he; cases he
    | some j =>
      rw [hj] at he
      cases he
      have hn : n + ((pr_n j).length + 1) ≤ 40000 := hn
      obtain ⟨b1, b2, b3⟩ := hp.2.2.2.2.2 i j hj
      obtain ⟨Sa, fa, oa⟩ := mp_lay (x := 120) n S1 hp.2.2.1 (by show n + 1 ≤ 40000; omega)
      have ra := pm_out hp oa
      obtain ⟨Sb, fb, ob⟩ := mp_num (m := j) (by omega) (n + [(120 : Int32)].length) Sa ra.1.2.2.1 (by show n + 1 + _ ≤ 40000; omega)
      have rb : pm_R S0 pn k n (120 :: pr_n j) k s S1 Sb := pm_R_cat ra (pm_out ra.1 ob)
      have a178 : Sa.1 178 i = Int32.ofNat j := (ra.1.2.2.2.2.2 i j hj).2.1
      refine pm_fin (its := []) hS hE (S2 := Sb) ?_ rb trivial (fun i hi => absurd hi List.not_mem_nil) (pr_b_n _ _) (by show 1 ≤ (pr_n j).length + 1; omega) hn (by show k + 0 + 10 * r ≤ 3900; omega)
      unfold fn_Mo_onExpression fn_Mo_onExpression_533
      rw [if_neg (ms_in hy (by decide)), im_t (show y < 2147483648 by omega), n3, h143, if_neg (show ¬(7 : Int32) = 1 by decide), if_neg (show ¬(7 : Int32) = 2 by decide), if_neg (show ¬(7 : Int32) = 3 by decide), if_neg (show ¬(7 : Int32) = 4 by decide), if_neg (show ¬(7 : Int32) = 5 by decide), if_neg (show ¬(7 : Int32) = 6 by decide), if_pos rfl, if_neg (ms_iy hy (by decide)), n4, h144, p93, if_neg (fun q => h ((im_lt (by omega) (by omega)).mp q)), fa, wd_d_s, if_neg (ms_iy hy (by decide)), (pm_n (y := y) ra.1).2.1, h144, if_neg (ms_in hi16 (by decide)), im_t (show i < 2147483648 by omega), a178, fb, wd_d_s]
end Mp4
end
/-! part b35 -/
section
/-! The reference's printing: any tree; versions. -/
section Mp5
variable {B pn k n m k' y z d r j g lo hi al ah i X a c : Nat} {l l0 l1 l2 : List Int32} {S0 S S' S1 S2 : wd_S} {t : tr_T} {s s' s0 s1 : pr_S} {x v : Int32} {e : Int64}
theorem pm_s (hB : B ≤ 1) (hh : hi ≤ 15010) (hah : ah ≤ 15010) (h93 : S0.1 135 93 = Int32.ofNat pn) (hpn : pn ≤ 16) (hS : pm_S S0 (80 * B) lo hi al ah pn r) : pm_S S0 (80 * B) lo hi al ah pn (r + 1) := by
  intro k n y d t s S l s' hp h165 h166 ht he hn hk
  have hE : pm_E S0 pn k n y s S (wd_i S 135 76 (Int32.ofNat k)) := pm_pope hp (by omega) h165 h166
  have he : pr_in pn (pr pn r) s t = some (l, s') := he
  unfold pr_in at he
  by_cases ok : ev_ok 78 t
  · rw [if_pos ok] at he
    obtain ⟨d, rfl⟩ : ∃ e, d = e + 1 := by
      cases d with
      | zero => exact ht.elim
      | succ d => exact ⟨d, rfl⟩
    obtain ⟨-, hy, hb⟩ := ht
    have hy : y < 15010 := by omega
    rcases hb with ⟨k1, -, b1, b2⟩ | ⟨k1, -, b1, b2, -⟩ | ⟨k1, -, b1, b2, -, z0, z1, b3, b4, b5, b6⟩ | ⟨k1, -, b1, z0, z1, z2, b2, b3, b4, b5, b6, b7⟩ | ⟨k1, b1, b2, b3, ⟨f, b4, b5⟩, g, b6, -, b8, b9⟩ | ⟨k1, -, b1, b2, z0, z1, b3, b4, b5, b6⟩
    · rw [if_pos k1] at he
      exact pm_num hS hE hy b1 b2 hk he hn
    · have q : tr_v t = Int32.ofNat (tr_n t) ∧ tr_n t < 16 := by
        rcases ok with q | ⟨-, q1, q2⟩ | ⟨q, -⟩ | ⟨q, -⟩ | ⟨q, -⟩ | ⟨q | q | q | q | q, -⟩
        · rw [k1] at q; exact absurd q (by decide)
        · exact ⟨q1, q2⟩
        all_goals (rw [k1] at q; exact absurd q (by decide))
      rw [k1, if_neg (show ¬(2 : Int32) = 1 by decide), if_pos rfl, q.1] at he
      exact pm_name hS h93 hpn hE hy b1 (b2.trans q.1) q.2 hk he hn
    · have q : tr_v t = Int32.ofNat (tr_n t) ∧ tr_n t < 16 := by
        rcases ok with q | ⟨q, -⟩ | ⟨-, q1, q2, -⟩ | ⟨q, -⟩ | ⟨q, -⟩ | ⟨q | q | q | q | q, -⟩
        · rw [k1] at q; exact absurd q (by decide)
        · rw [k1] at q; exact absurd q (by decide)
        · exact ⟨q1, q2⟩
        all_goals (rw [k1] at q; exact absurd q (by decide))
      rw [k1, if_neg (show ¬(3 : Int32) = 1 by decide), if_neg (show ¬(3 : Int32) = 2 by decide), if_pos rfl] at he
      exact pm_let hS hE hy b1 b3 b4 (b2.trans q.1) q.2 b5 b6 hk he hn
    · rw [k1, if_neg (show ¬(4 : Int32) = 1 by decide), if_neg (show ¬(4 : Int32) = 2 by decide), if_neg (show ¬(4 : Int32) = 3 by decide), if_pos rfl] at he
      exact pm_if hS hE hy b1 b2 b3 b4 b5 b6 b7 hk he hn
    · have q : tr_v t = Int32.ofNat (tr_n t) ∧ tr_n t < 78 := by
        rcases ok with q | ⟨q, -⟩ | ⟨q, -⟩ | ⟨q, -⟩ | ⟨-, -, q1, q2⟩ | ⟨q | q | q | q | q, -⟩
        · rw [k1] at q; exact absurd q (by decide)
        · rw [k1] at q; exact absurd q (by decide)
        · rw [k1] at q; exact absurd q (by decide)
        · rw [k1] at q; exact absurd q (by decide)
        · exact ⟨q1, q2⟩
        all_goals (rw [k1] at q; exact absurd q (by decide))
      rw [k1, if_neg (show ¬(5 : Int32) = 1 by decide), if_neg (show ¬(5 : Int32) = 2 by decide), if_neg (show ¬(5 : Int32) = 3 by decide), if_neg (show ¬(5 : Int32) = 4 by decide), if_pos rfl] at he
      have e146 : S0.1 146 y = Int32.ofNat (80 * B + tr_n t) := by
        rw [b5, Int32.ofNat_add, ← b4, q.1, ← Int32.ofNat_add]
      have hz : ∀ j, j < tr_a t → S0.1 149 (g + j) = Int32.ofNat (S0.1 149 (g + j)).toNatClampNeg ∧ mj_t S0 (80 * B) lo hi al ah d (S0.1 149 (g + j)).toNatClampNeg (tr_sub t j) := fun j hj => by
        obtain ⟨z, c1, c2⟩ := b9 j hj
        have hzl : z < 15010 := by
          cases d with
          | zero => exact c2.elim
          | succ d => have := c2.2.1; omega
        rw [c1, im_t (by omega)]
        exact ⟨rfl, c2⟩
      exact pm_call (zs := fun j => (S0.1 149 (g + j)).toNatClampNeg) hS hB hE hy b1 b6 b2 e146 q.2 b3 (by omega) (fun j hj => (hz j hj).1) (fun j hj => ⟨d, (hz j hj).2⟩) hk he hn
    · have nk : ¬tr_k t = 1 ∧ ¬tr_k t = 2 ∧ ¬tr_k t = 3 ∧ ¬tr_k t = 4 ∧ ¬tr_k t = 5 := by
        rcases k1 with z | z | z | z | z <;> rw [z] <;> decide
      rw [if_neg nk.1, if_neg nk.2.1, if_neg nk.2.2.1, if_neg nk.2.2.2.1, if_neg nk.2.2.2.2] at he
      exact pm_sgn hS hE hy k1 b1 b2 b3 b4 b5 b6 hk he hn
  · rw [if_neg ok] at he
    cases he
theorem pm_any (hB : B ≤ 1) (hh : hi ≤ 15010) (hah : ah ≤ 15010) (h93 : S0.1 135 93 = Int32.ofNat pn) (hpn : pn ≤ 16) : ∀ r, pm_S S0 (80 * B) lo hi al ah pn r := by
  intro r
  induction r with
  | zero =>
    intro k n y d t s S l s' _ _ _ _ he _ _
    cases he
  | succ r ih => exact pm_s hB hh hah h93 hpn ih
/-- how many parameters are left -/
theorem mk_left : ∀ m, m < 16 → ∀ n, n < 5 → m < 2 ^ n → Int32.ofNat n - ((Int32.ofNat m >>> ((0 : Int32) &&& 31)) &&& 1) - ((Int32.ofNat m >>> ((1 : Int32) &&& 31)) &&& 1) - ((Int32.ofNat m >>> ((2 : Int32) &&& 31)) &&& 1) - ((Int32.ofNat m >>> ((3 : Int32) &&& 31)) &&& 1) = Int32.ofNat (mk_lf m n) := by decide +kernel
theorem mo_left {p : Nat} (hp : p < 160) (hg : g < 96) (h159 : S.1 159 p = Int32.ofNat g) (h160 : S.1 160 p = Int32.ofNat m) (h138 : S.1 138 g = Int32.ofNat n) (hn : n ≤ 4) (hm : m < 2 ^ n) : fn_Mo_leftOf (Int32.ofNat p) S = some (Int32.ofNat (mk_lf m n), S) := by
  have hm16 : m < 16 := Nat.lt_of_lt_of_le hm (show 2 ^ n ≤ 2 ^ 4 from Nat.pow_le_pow_right (by decide) hn)
  have i1 : ∀ F l2 l3, l3 < (4 : Int32) → fn_Mo_leftOf_14 (F + 1) (Int32.ofNat p) l2 l3 S = fn_Mo_leftOf_14 F (Int32.ofNat p) (l2 - ((Int32.ofNat m >>> (l3 &&& 31)) &&& 1)) (l3 + 1) S := fun F l2 l3 h => by
    rw [fn_Mo_leftOf_14, if_pos h, if_neg (ms_in hp (by decide)), im_t (show p < 2147483648 by omega), h160]
  unfold fn_Mo_leftOf
  rw [if_neg (ms_in hp (by decide)), im_t (show p < 2147483648 by omega), h159, if_neg (ms_in hg (by decide)), im_t (show g < 2147483648 by omega), h138, show wd_F = 999995 + 1 + 1 + 1 + 1 + 1 from rfl, i1 _ _ 0 (by decide), i1 _ _ (0 + 1) (by decide), i1 _ _ (0 + 1 + 1) (by decide), i1 _ _ (0 + 1 + 1 + 1) (by decide), fn_Mo_leftOf_14, if_neg (show ¬(0 + 1 + 1 + 1 + 1 : Int32) < 4 by decide)]
  rw [← mk_left m hm16 n (by omega) hm]
  rfl
/-- what a version's print writes -/
def pw_o (n : Nat) (l : List Int32) (S S' : wd_S) : Prop := of_f (fun a b => (a = 135 ∧ (b = 76 ∨ b = 88 ∨ b = 92 ∨ b = 93)) ∨ a = 165 ∨ a = 166 ∨ a = 177 ∨ a = 178 ∨ (a = 176 ∧ n ≤ b ∧ b < n + l.length)) S S' ∧ S'.1 135 88 = Int32.ofNat (n + l.length) ∧ ∀ j, (hj : j < l.length) → S'.1 176 (n + j) = l[j]
theorem pw_cat (h1 : pw_o n l1 S S1) (h2 : pw_o (n + l1.length) l2 S1 S2) : pw_o n (l1 ++ l2) S S2 := by
  obtain ⟨a2, a1, a3⟩ := h1
  obtain ⟨b2, b1, b3⟩ := h2
  have el : (l1 ++ l2).length = l1.length + l2.length := List.length_append
  refine ⟨of_trans (of_mono (fun a b q => by rw [el]; omega) a2) (of_mono (fun a b q => by rw [el]; omega) b2), by rw [el, ← Nat.add_assoc]; exact b1, fun j hj => ?_⟩
  rw [el] at hj
  by_cases e : j < l1.length
  · rw [List.getElem_append_left e, b2.1 176 (n + j) (by omega)]
    exact a3 j e
  · rw [List.getElem_append_right (by omega)]
    have := b3 (j - l1.length) (by omega)
    rw [show n + l1.length + (j - l1.length) = n + j by omega] at this
    exact this
theorem pw_mp (h : mp_o n l S S') : pw_o n l S S' := ⟨of_mono (fun a b q => by omega) h.1, h.2.1, h.2.2⟩
theorem pw_pm (h : pm_R S0 pn k n l k' s' S S') : pw_o n l S S' := ⟨of_mono (fun a b q => by unfold pm_V at q; omega) h.2.1, h.1.2.2.1, h.2.2⟩
theorem pw_0 (ho : of_f (fun a b => (a = 135 ∧ (b = 76 ∨ b = 92 ∨ b = 93)) ∨ a = 165 ∨ a = 166) S S') (h : S.1 135 88 = Int32.ofNat n) : pw_o n [] S S' := ⟨of_mono (fun a b q => by omega) ho, by rw [ho.1 135 88 (by omega)]; exact h, fun j hj => absurd hj (Nat.not_lt_zero _)⟩
/-- the parameters -/
theorem pw_92 {kk : Int32 → wd_S → Option (Int32 × wd_S)} {l1 l2 : Int32} (hpn : pn ≤ 4) : ∀ (q i F n : Nat) (S : wd_S), i + q = pn → S.1 135 93 = Int32.ofNat pn → S.1 135 88 = Int32.ofNat n → n + (pr_ps q i).length ≤ 40000 → ∃ S', fn_Mo_print_92 kk (F + 1 + q) l1 l2 (Int32.ofNat i) S = fn_Mo_print_92 kk (F + 1) l1 l2 (Int32.ofNat pn) S' ∧ mp_o n (pr_ps q i) S S' := by
  intro q
  induction q with
  | zero =>
    intro i F n S hi h93 h88 hn
    exact ⟨S, by rw [show i = pn by omega], of_refl, h88, fun j hj => absurd hj (Nat.not_lt_zero _)⟩
  | succ q ih =>
    intro i F n S hi h93 h88 hn
    have e : pr_ps (q + 1) i = ((if i = 0 then [] else pr_x 17) ++ [97 + Int32.ofNat i]) ++ pr_ps q (i + 1) := by
      rw [List.append_assoc]
      rfl
    rw [e, List.length_append] at hn
    have a17 : ∀ S, fn_Mo_eight 0 0 0 0 44 32 S = some (11296, S) := fun S => by unfold fn_Mo_eight; congr 2
    have step : ∃ S1, fn_Mo_print_92 kk (F + 1 + (q + 1)) l1 l2 (Int32.ofNat i) S = fn_Mo_print_92 kk (F + 1 + q) l1 l2 (Int32.ofNat (i + 1)) S1 ∧ mp_o n ((if i = 0 then [] else pr_x 17) ++ [97 + Int32.ofNat i]) S S1 := by
      by_cases h : i = 0
      · rw [if_pos h, List.nil_append] at hn ⊢
        obtain ⟨S1, f1, o1⟩ := mp_lay (x := 97 + Int32.ofNat i) n S h88 (by omega)
        refine ⟨S1, ?_, o1⟩
        show fn_Mo_print_92 kk (F + 1 + q + 1) l1 l2 (Int32.ofNat i) S = _
        rw [fn_Mo_print_92, h93, if_pos ((im_lt (by omega) (by omega)).mpr (by omega)), if_neg (show ¬(0 : Int32) < Int32.ofNat i by rw [h]; decide)]
        unfold fn_Mo_print_119
        rw [f1, wd_d_s, im_s]
      · rw [if_neg h] at hn ⊢
        rw [List.length_append] at hn
        have hn : n + ((pr_x 17).length + 1 + (pr_ps q (i + 1)).length) ≤ 40000 := hn
        obtain ⟨S1, f1, o1⟩ := mp_all (e := 11296) n S h88 (by rw [pm_17]; omega)
        rw [pm_17] at o1
        obtain ⟨S2, f2, o2⟩ := mp_lay (x := 97 + Int32.ofNat i) (n + (pr_x 17).length) S1 o1.2.1 (by show n + (pr_x 17).length + 1 ≤ 40000; omega)
        refine ⟨S2, ?_, mp_cat o1 o2⟩
        show fn_Mo_print_92 kk (F + 1 + q + 1) l1 l2 (Int32.ofNat i) S = _
        rw [fn_Mo_print_92, h93, if_pos ((im_lt (by omega) (by omega)).mpr (by omega)), if_pos (show (0 : Int32) < Int32.ofNat i from (im_lt (m := 0) (n := i) (by omega) (by omega)).mpr (by omega)), a17, wd_c_s, f1, wd_d_s]
        unfold fn_Mo_print_119
        rw [f2, wd_d_s, im_s]
    obtain ⟨S1, f1, o1⟩ := step
    obtain ⟨S2, f2, o2⟩ := ih (i + 1) F (n + ((if i = 0 then [] else pr_x 17) ++ [97 + Int32.ofNat i]).length) S1 (by omega) (by rw [o1.1.1 135 93 (by omega)]; exact h93) o1.2.1 (by omega)
    exact ⟨S2, by rw [f1, f2], by rw [e]; exact mp_cat o1 o2⟩
end Mp5
end
