/-! The class's print(). -/
/-- bytes of a rest: not more than 24 an EXPRESSION -/
def pz_t : Nat → tr_T → Nat → Prop
  | 0, _, _ => False
  | d + 1, t, z => (tr_a t = 0 ∧ z = 1) ∨ ∃ zs : List Nat, zs.length = tr_a t ∧ z = 1 + zs.sum ∧ ∀ j, (hj : j < zs.length) → pz_t d (tr_sub t j) zs[j]
section Pc4
variable {w : Bool} {v n m k pn y z d r j c : Nat} {l l1 l2 : List Int32} {S0 S S' S1 S2 : wd_S} {f g : wd_S → Option wd_S} {t : tr_T} {s s' s1 : pr_S} {pg ds : pg_T}
theorem pc_39 (hX : pc_X v w S0) (hpn : pn ≤ 4) {K : wd_S → Option wd_S} {k : Int32} (hK : ∀ F S, S.1 128 6 = Int32.ofNat pn → fn_Printer_showVersion_39 (F + 1) k (Int32.ofNat pn) S = K S) : ∀ (q i F n : Nat) (S : wd_S), i + q = pn → S.1 128 4 = (if w = true then 1 else 0) → S.1 128 6 = Int32.ofNat pn → S.1 128 5 = Int32.ofNat n → n + (pr_ps q i).length ≤ 40000 → ∃ S', fn_Printer_showVersion_39 (F + 1 + q) k (Int32.ofNat i) S = K S' ∧ pc_o w n (pr_ps q i) S S' := by
  intro q
  induction q with
  | zero =>
    intro i F n S hi h4 h6 h5 hn
    have hi : i = pn := hi
    subst hi
    exact ⟨S, hK F S h6, of_refl, h5, fun _ j hj => absurd hj (Nat.not_lt_zero _)⟩
  | succ q ih =>
    intro i F n S hi h4 h6 h5 hn
    have hw : pc_f w ((if i = 0 then [] else pr_x 17) ++ [97 + Int32.ofNat i]) (fun S => wd_d (fn_Printer_putText (if i = 0 then 16 else 17) S) (fn_Printer_put (97 + Int32.ofNat i))) := by
      refine pc_seq ?_ pc_put
      by_cases e : i = 0
      · rw [if_pos e, if_pos e]; exact pc_text (t := 16) (by decide)
      · rw [if_neg e, if_neg e]; exact pc_text (t := 17) (by decide)
    have el : pr_ps (q + 1) i = ((if i = 0 then [] else pr_x 17) ++ [97 + Int32.ofNat i]) ++ pr_ps q (i + 1) := by
      show (if i = 0 then [] else pr_x 17) ++ (97 + Int32.ofNat i) :: pr_ps q (i + 1) = _
      rw [List.append_assoc]
      rfl
    rw [el] at hn ⊢
    rw [List.length_append] at hn
    obtain ⟨S1, f1, o1⟩ := hw n S h4 h5 (by omega)
    obtain ⟨S2, f2, o2⟩ := ih (i + 1) F _ S1 (by omega) (by rw [o1.1.1 128 4 (by omega)]; exact h4) (by rw [o1.1.1 128 6 (by omega)]; exact h6) o1.2.1 (by omega)
    refine ⟨S2, ?_, pc_cat o1 o2⟩
    show fn_Printer_showVersion_39 (F + 1 + q + 1) k (Int32.ofNat i) S = _
    rw [fn_Printer_showVersion_39, h6, if_pos ((im_lt (by omega) (by omega)).mpr (by omega))]
    unfold fn_Printer_showVersion_59
    rw [im_s, ← f2]
    have f1 : wd_d (fn_Printer_putText (if i = 0 then 16 else 17) S) (fn_Printer_put (97 + Int32.ofNat i)) = some S1 := f1
    have fin : ∀ T, T = (if i = 0 then 16 else 17) → (wd_d (fn_Printer_putText T S) fun S39 => wd_d (fn_Printer_put (97 + Int32.ofNat i) S39) fun S42 => fn_Printer_showVersion_39 (F + 1 + q) k (Int32.ofNat (i + 1)) S42) = fn_Printer_showVersion_39 (F + 1 + q) k (Int32.ofNat (i + 1)) S1 := fun T hT => by
      rw [← hT] at f1
      cases hx : fn_Printer_putText T S with
      | none => rw [hx] at f1; cases f1
      | some Sx => rw [hx, wd_d_s] at f1; rw [wd_d_s, f1, wd_d_s]
    by_cases e : i = 0
    · rw [if_pos (show Int32.ofNat i = 0 by rw [e]; rfl)]
      exact fin 16 (by rw [if_pos e])
    · rw [if_neg (show ¬Int32.ofNat i = 0 from fun q => e ((im_eq (m := i) (n := 0) (by omega) (by omega)).mp q))]
      exact fin 17 (by rw [if_neg e])
/-- what printing versions may write -/
def pv_W (n m a b : Nat) : Prop := (a = 127 ∧ n ≤ b ∧ b < m) ∨ (a = 128 ∧ (b = 5 ∨ b = 6 ∨ b = 7)) ∨ a = 130
theorem pc_ver (hX : pc_X v w S) (hk : k < 78) (hpn : pn ≤ 4) (h18 : S.1 (v + 18) k = Int32.ofNat pn) (h16 : S.1 (v + 16) k = Int32.ofNat y) (ht : nd_t (v + 2) S 0 1000 96 y t) (h5 : S.1 128 5 = Int32.ofNat n) (he : pr_v k pn t = some l) (hn : n + l.length ≤ 40000) : ∃ S', fn_Printer_showVersion (Int32.ofNat k) S = some S' ∧ of_f (pv_W n (n + l.length)) S S' ∧ S'.1 128 5 = Int32.ofNat (n + l.length) ∧ (w = true → ∀ j, (hj : j < l.length) → S'.1 127 (n + j) = l[j]) := by
  obtain ⟨t9, t0, t8, gL, z16, z18⟩ := pc_vv hX
  unfold pr_v at he
  cases hq : pr pn 96 (0, fun _ => none) t with
  | none => rw [hq] at he; cases he
  | some q =>
    rw [hq] at he
    cases he
    generalize hL1 : (118 :: pr_n k ++ 40 :: pr_ps pn 0 ++ pr_x 18 : List Int32) = L1 at *
    generalize hS1 : wd_i (wd_i S 128 6 (Int32.ofNat pn)) 128 7 0 = S1
    have o1 : of_f (fun a b => a = 128 ∧ (b = 6 ∨ b = 7)) S S1 := by rw [← hS1]; exact of_i (by omega) (of_i (by omega) of_refl)
    have c6 : S1.1 128 6 = Int32.ofNat pn := by rw [← hS1, fr_ne (by omega), fr_eq]
    have c7 : S1.1 128 7 = 0 := by rw [← hS1, fr_eq]
    have c4 : S1.1 128 4 = (if w = true then 1 else 0) := by rw [o1.1 128 4 (by omega)]; exact hX.2.2.2
    have c5 : S1.1 128 5 = Int32.ofNat n := by rw [o1.1 128 5 (by omega)]; exact h5
    have eL : L1.length = (pr_n k).length + 1 + 1 + (pr_ps pn 0).length + 4 := by
      rw [← hL1]
      simp only [List.length_append, List.length_cons]
      have : (pr_x 18).length = 4 := rfl
      omega
    rw [List.length_append, List.length_append] at hn
    have e19 : (pr_x 19).length = 2 := rfl
    -- v, its number, (
    obtain ⟨S2, f2, o2⟩ := pc_seq (w := w) (pc_seq (w := w) (pc_put (x := 118)) (pc_num (w := w) (m := k) (by omega))) (pc_put (w := w) (x := 40)) n S1 c4 c5 (by simp only [List.length_append, List.length_cons, List.length_nil]; omega)
    generalize hL2 : ([118] ++ pr_n k ++ [40] : List Int32) = L2 at *
    have eL2 : L2.length = (pr_n k).length + 2 := by
      rw [← hL2]
      simp only [List.length_append, List.length_cons, List.length_nil]
      omega
    -- the tail
    let K : wd_S → Option wd_S := fun S => (wd_d (fn_Printer_putText 18 S) fun S21 => (if tp_t (S21.2.2.1 128 2) = (0, 9) then (wd_c (fn_Versions_bodies (S21.2.2.1 128 2) S21) fun x26 S25 => if tp_t x26 = (0, 0) then (wd_c (fn_Bodies_root x26 (Int32.ofNat k) S25) fun x30 S29 => (wd_d (rc_Printer_show 200 130 x30 (0 : Int32) S29) fun S32 => (wd_d (fn_Printer_putText 19 S32) fun S35 => some S35))) else none) else none))
    obtain ⟨S3, f3, o3⟩ := pc_39 (w := w) (K := K) (k := Int32.ofNat k) hX hpn (fun F S q => by rw [fn_Printer_showVersion_39, q, if_neg Int32.lt_irrefl]) pn 0 (999999 - pn) (n + L2.length) S2 (Nat.zero_add _) (by rw [o2.1.1 128 4 (by omega)]; exact c4) (by rw [o2.1.1 128 6 (by omega)]; exact c6) o2.2.1 (by omega)
    rw [show 999999 - pn + 1 + pn = wd_F by rw [show wd_F = 1000000 from rfl]; omega] at f3
    have o23 := pc_cat o2 o3
    obtain ⟨S4, f4, o4⟩ := pc_text (w := w) (t := 18) (by decide) (n + (L2 ++ pr_ps pn 0).length) S3 (by rw [o23.1.1 128 4 (by omega)]; exact c4) o23.2.1 (by rw [List.length_append]; have : (pr_x 18).length = 4 := rfl; omega)
    have o24 := pc_cat o23 o4
    have eLL : L2 ++ pr_ps pn 0 ++ pr_x 18 = L1 := by
      rw [← hL1, ← hL2]
      simp only [List.cons_append, List.nil_append, List.append_assoc]
    rw [eLL] at o24
    -- the tree
    have oS4 : of_f (fun a b => (a = 128 ∧ (b = 5 ∨ b = 6 ∨ b = 7)) ∨ (a = 127 ∧ n ≤ b ∧ b < n + L1.length)) S S4 := of_trans (of_mono (fun a b q => by omega) o1) (of_mono (fun a b q => by omega) o24.1)
    have hX4 : pc_X v w S4 := ⟨hX.1, by rw [oS4.2.2]; exact hX.2.1, by rw [oS4.2.2]; exact hX.2.2.1, by rw [oS4.1 128 4 (by omega)]; exact hX.2.2.2⟩
    have hv := hX.1
    have ht4 : nd_t (v + 2) S4 0 1000 96 y t := nd_t_g (nd_rows (fun a q1 q2 => funext fun b => oS4.1 a b (by omega))) _ _ _ ht
    have hp4 : pc_h S4 pn (n + L1.length) (0, fun _ => none) S4 := ⟨of_refl, o24.2.1, by rw [o24.1.1 128 6 (by omega)]; exact c6, by rw [o24.1.1 128 7 (by omega)]; exact c7, Nat.zero_le _, hpn, fun i j hij => by cases hij⟩
    obtain ⟨S5, f5, r5⟩ := pc_all (pn := pn) hX4 96 (Nat.le_refl _) y t 96 ht4 (n + L1.length) (0, fun _ => none) S4 q.1 q.2 hq hp4 (by omega)
    have f5 : rc_Printer_show 200 130 (Int32.ofNat y) 0 S4 = some S5 := f5
    obtain ⟨S6, f6, o6⟩ := pc_text (w := w) (t := 19) (by decide) (n + L1.length + q.1.length) S5 (pc_h4 hX4 r5.1) r5.1.2.1 (by omega)
    have ecode : fn_Printer_showVersion (Int32.ofNat k) S = some S6 := by
      unfold fn_Printer_showVersion fn_Versions_bodies
      simp only [wd_b]
      rw [hX.2.1, if_pos t9, wd_c_s, if_pos t0, fo_params, wd_c_s, ro_an (r := v + 1 + 16) (show (tp_t (v + 1 + 16 + 1)).2 = 78 by rw [show v + 1 + 16 + 1 = v + 18 by omega]; exact z18) hk, show S.1 (v + 1 + 16 + 1) k = Int32.ofNat pn by rw [show v + 1 + 16 + 1 = v + 18 by omega]; exact h18, hS1]
      have f2 : wd_d (wd_d (fn_Printer_put 118 S1) (fn_Printer_putNumber (Int32.ofNat k))) (fn_Printer_put 40) = some S2 := f2
      have e2 : (wd_d (fn_Printer_put 118 S1) fun S11 => wd_d (fn_Printer_putNumber (Int32.ofNat k) S11) fun S14 => wd_d (fn_Printer_put 40 S14) fun S17 => fn_Printer_showVersion_39 wd_F (Int32.ofNat k) 0 S17) = fn_Printer_showVersion_39 wd_F (Int32.ofNat k) 0 S2 := by
        cases hx : fn_Printer_put 118 S1 with
        | none => rw [hx] at f2; cases f2
        | some Sx =>
          rw [hx, wd_d_s] at f2
          rw [wd_d_s]
          cases hy : fn_Printer_putNumber (Int32.ofNat k) Sx with
          | none => rw [hy] at f2; cases f2
          | some Sy =>
            rw [hy, wd_d_s] at f2
            rw [wd_d_s, f2, wd_d_s]
      have f3 : fn_Printer_showVersion_39 wd_F (Int32.ofNat k) 0 S2 = K S3 := f3
      rw [e2, f3]
      show (wd_d (fn_Printer_putText 18 S3) fun S21 => _) = some S6
      rw [f4, wd_d_s, hX4.2.1, if_pos t9]
      unfold fn_Versions_bodies
      rw [wd_c_s, if_pos t0, fo_root, wd_c_s, ro_an (r := v + 1 + 14) (show (tp_t (v + 1 + 14 + 1)).2 = 78 by rw [show v + 1 + 14 + 1 = v + 16 by omega]; exact z16) hk, oS4.1 (v + 1 + 14 + 1) k (by omega), show S.1 (v + 1 + 14 + 1) k = Int32.ofNat y by rw [show v + 1 + 14 + 1 = v + 16 by omega]; exact h16, f5, wd_d_s, f6, wd_d_s]
    have hlen : (L1 ++ q.1 ++ pr_x 19).length = L1.length + q.1.length + 2 := by rw [List.length_append, List.length_append, e19]
    refine ⟨S6, ecode, ?_, ?_, fun hw j hj => ?_⟩
    · rw [hlen]
      refine of_trans (of_mono (fun a b q => by unfold pv_W; omega) oS4) (of_trans (of_mono (fun a b q => by unfold pc_V at q; unfold pv_W; omega) r5.2.1) (of_mono (fun a b q => by rw [e19] at q; unfold pv_W; omega) o6.1))
    · rw [o6.2.1, hlen, e19]
      congr 1
      omega
    · rw [hlen] at hj
      by_cases j1 : j < L1.length
      · rw [List.getElem_append_left (by rw [List.length_append]; omega), List.getElem_append_left j1, o6.1.1 127 _ (by omega), r5.2.1.1 127 _ (by unfold pc_V; omega)]
        exact o24.2.2 hw j j1
      · by_cases j2 : j < L1.length + q.1.length
        · rw [List.getElem_append_left (by rw [List.length_append]; omega), List.getElem_append_right (by omega), o6.1.1 127 _ (by omega)]
          have := r5.2.2 hw (j - L1.length) (by omega)
          rw [show n + L1.length + (j - L1.length) = n + j by omega] at this
          exact this
        · rw [List.getElem_append_right (by rw [List.length_append]; omega)]
          have := o6.2.2 hw (j - (L1 ++ q.1).length) (by rw [List.length_append, e19]; omega)
          rw [show n + L1.length + q.1.length + (j - (L1 ++ q.1).length) = n + j by rw [List.length_append]; omega] at this
          exact this
end Pc4
