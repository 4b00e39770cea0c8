/-! The class's printer: calls, versions; print(). -/
section Pc3
variable {w : Bool} {v n m k pn y z d r j : Nat} {l l1 l2 : List Int32} {S0 S S' S1 S2 : wd_S} {f g : wd_S → Option wd_S} {t : tr_T} {s s' s1 : pr_S}
theorem pc_as (hX : pc_X v w S0) (hS : pc_S v w S0 pn r) (hr : r + 1 ≤ 96) (ht : nd_t (v + 2) S0 0 1000 d y t) (ha : tr_a t ≤ 4) : ∀ (q j F : Nat), q + j = tr_a t → pc_C w S0 pn (fun s => pr_as (pr pn r) t q j s) (fn_Printer_showCall_26 (rc_Printer_show (2 * r + 8)) (F + 1 + q) (Int32.ofNat y) (Int32.ofNat (96 - (r + 1))) (Int32.ofNat j)) := by
  obtain ⟨-, -, t8, -⟩ := pc_vv hX
  intro q
  induction q with
  | zero =>
    intro j F hj n s S l s' he hp hn
    have hj : j = tr_a t := by omega
    have e80 : fn_Printer_showCall_26 (rc_Printer_show (2 * r + 8)) (F + 1 + 0) (Int32.ofNat y) (Int32.ofNat (96 - (r + 1))) (Int32.ofNat j) S = fn_Printer_put 41 S := by
      rw [Nat.add_zero, fn_Printer_showCall_26]
      unfold fn_Printer_showCall_80
      rw [wd_d_id]
      split
      · rw [pc_h3 hX hp, if_pos t8, (pc_nd hX hp ht).2.2.1, wd_c_s, hj, if_neg Int32.lt_irrefl]
        exact wd_d_id _
      · rfl
    rw [e80]
    exact pc_Cf hX pc_put n s S l s' he hp hn
  | succ q ih =>
    intro j F hj
    have hrest := pc_part (J := Int32.ofNat j) (pn := pn) hX hS hr ht (j := j) (by omega) (by omega) rfl (ih (j + 1) F (by omega))
    have h1 : pc_C w S0 pn (fun s => pr_b (some (if j = 0 then [] else pr_x 17, s)) fun s => pr_b (pr pn r s (tr_sub t j)) fun s => pr_as (pr pn r) t q (j + 1) s) (fun S => wd_d (fn_Printer_putText (if j = 0 then 16 else 17) S) (fun S24 => if tp_t (S24.2.2.1 128 3) = (0, 8) then (wd_c (fn_Trees_part (S24.2.2.1 128 3) (Int32.ofNat y) (Int32.ofNat j) S24) fun x6 S5 => wd_d (rc_Printer_show (2 * r + 8) 130 x6 (Int32.ofNat (96 - (r + 1)) + 1) S5) (fn_Printer_showCall_26 (rc_Printer_show (2 * r + 8)) (F + 1 + q) (Int32.ofNat y) (Int32.ofNat (96 - (r + 1))) (Int32.ofNat (j + 1)))) else none)) := by
      refine pc_Cseq (x := fun s => some (if j = 0 then [] else pr_x 17, s)) ?_ hrest
      by_cases e : j = 0
      · rw [if_pos e]
        simp only [if_pos e]
        exact pc_Cf hX (pc_text (t := 16) (by decide))
      · rw [if_neg e]
        simp only [if_neg e]
        exact pc_Cf hX (pc_text (t := 17) (by decide))
    intro n s S l s' he hp hn
    have he : pr_b (some (if j = 0 then [] else pr_x 17, s)) (fun s => pr_b (pr pn r s (tr_sub t j)) fun s => pr_as (pr pn r) t q (j + 1) s) = some (l, s') := he
    obtain ⟨S', f', r'⟩ := h1 n s S l s' he hp hn
    refine ⟨S', ?_, r'⟩
    show fn_Printer_showCall_26 (rc_Printer_show (2 * r + 8)) (F + 1 + q + 1) (Int32.ofNat y) (Int32.ofNat (96 - (r + 1))) (Int32.ofNat j) S = some S'
    rw [fn_Printer_showCall_26, if_pos (show Int32.ofNat j < 4 from (im_lt (m := j) (n := 4) (by omega) (by omega)).mpr (by omega)), pc_h3 hX hp, if_pos t8, (pc_nd hX hp ht).2.2.1, wd_c_s, if_pos ((im_lt (by omega) (by omega)).mpr (by omega))]
    unfold fn_Printer_showCall_55
    rw [im_s j]
    by_cases e : j = 0
    · rw [if_pos (show Int32.ofNat j = 0 by rw [e]; rfl)]
      rw [if_pos e] at f'
      exact f'
    · rw [if_neg (show ¬Int32.ofNat j = 0 from fun q => e ((im_eq (m := j) (n := 0) (by omega) (by omega)).mp q))]
      rw [if_neg e] at f'
      exact f'
theorem pc_call (hX : pc_X v w S0) (hS : pc_S v w S0 pn r) (hr : r + 1 ≤ 96) (ht : nd_t (v + 2) S0 0 1000 d y t) (ha : tr_a t ≤ 4) (hv : tr_v t = Int32.ofNat (tr_n t)) (hi : tr_n t < 1000) : pc_C w S0 pn (fun s => pr_b (some (118 :: pr_n (tr_n t) ++ [40], s)) (fun s => pr_as (pr pn r) t (tr_a t) 0 s)) (fn_Printer_showCall (rc_Printer_show (2 * r + 8)) (Int32.ofNat y) (Int32.ofNat (96 - (r + 1)))) := fun n s S l s' he hp hn => by
  obtain ⟨-, -, t8, -⟩ := pc_vv hX
  have h26 := pc_as (pn := pn) hX hS hr ht ha (tr_a t) 0 (999999 - tr_a t) rfl
  rw [show 999999 - tr_a t + 1 + tr_a t = wd_F by rw [show wd_F = 1000000 from rfl]; omega] at h26
  have hA := pc_seq (w := w) (pc_seq (w := w) (pc_put (x := 118)) (pc_num (w := w) (m := tr_n t) (by omega))) (pc_put (w := w) (x := 40))
  obtain ⟨S', f', r'⟩ := pc_Cseq (x := fun s => some (118 :: pr_n (tr_n t) ++ [40], s)) (pc_Cf (pn := pn) hX hA) h26 n s S l s' he hp hn
  refine ⟨S', ?_, r'⟩
  have f' : wd_d (wd_d (wd_d (fn_Printer_put 118 S) (fn_Printer_putNumber (Int32.ofNat (tr_n t)))) (fn_Printer_put 40)) (fn_Printer_showCall_26 (rc_Printer_show (2 * r + 8)) wd_F (Int32.ofNat y) (Int32.ofNat (96 - (r + 1))) 0) = some S' := f'
  obtain ⟨l1, s1, l2, q1, q2, ql⟩ := pr_b_ok he
  cases q1
  subst ql
  rw [List.length_append, List.length_append] at hn
  have hn : n + ((pr_n (tr_n t)).length + 1 + 1 + l2.length) ≤ 40000 := hn
  obtain ⟨Sx, fx, ox⟩ := pc_put (w := w) (x := 118) n S (pc_h4 hX hp) hp.2.1 (by show n + 1 ≤ 40000; omega)
  obtain ⟨Sx', fx', rx⟩ := pc_Cf (pn := pn) hX (pc_put (w := w) (x := 118)) n s S _ s rfl hp (by show n + 1 ≤ 40000; omega)
  have exx : Sx' = Sx := by rw [fx] at fx'; exact (Option.some.inj fx').symm
  subst exx
  unfold fn_Printer_showCall
  rw [fx, wd_d_s] at f' ⊢
  rw [pc_h3 hX rx.1, if_pos t8, (pc_nd hX rx.1 ht).2.1, wd_c_s, hv, ← f']
  cases fn_Printer_putNumber (Int32.ofNat (tr_n t)) Sx' with
  | none => rfl
  | some Sy => rfl
theorem rp_130 {n : Nat} {a e : Int32} : rc_Printer_show (n + 1) 130 a e S = fn_Printer_show (rc_Printer_show n) a e S := by rw [rc_Printer_show, if_pos rfl]
theorem rp_133 {n : Nat} {a e : Int32} : rc_Printer_show (n + 1) 133 a e S = fn_Printer_showLet (rc_Printer_show n) a e S := by rw [rc_Printer_show, if_neg (by decide), if_pos rfl]
theorem rp_134 {n : Nat} {a e : Int32} : rc_Printer_show (n + 1) 134 a e S = fn_Printer_showIf (rc_Printer_show n) a e S := by rw [rc_Printer_show, if_neg (by decide), if_neg (by decide), if_pos rfl]
theorem rp_135 {n : Nat} {a e : Int32} : rc_Printer_show (n + 1) 135 a e S = fn_Printer_showCall (rc_Printer_show n) a e S := by rw [rc_Printer_show, if_neg (by decide), if_neg (by decide), if_neg (by decide), if_pos rfl]
theorem rp_136 {n : Nat} {a e : Int32} : rc_Printer_show (n + 1) 136 a e S = fn_Printer_showSign (rc_Printer_show n) a e S := by rw [rc_Printer_show, if_neg (by decide), if_neg (by decide), if_neg (by decide), if_neg (by decide), if_pos rfl]
theorem pc_s (hX : pc_X v w S0) (hS : pc_S v w S0 pn r) (hr : r + 1 ≤ 96) : pc_S v w S0 pn (r + 1) := by
  intro y t d ht n s S l s' he hp hn
  obtain ⟨-, -, t8, -⟩ := pc_vv hX
  have he : pr_in pn (pr pn r) s t = some (l, s') := he
  unfold pr_in at he
  rw [show 2 * (r + 1) + 8 = 2 * r + 8 + 1 + 1 by omega, rp_130]
  unfold fn_Printer_show fn_Printer_show_111
  rw [if_pos (show Int32.ofNat (96 - (r + 1)) < 96 from (im_lt (m := 96 - (r + 1)) (n := 96) (by omega) (by omega)).mpr (by omega)), pc_h3 hX hp, if_pos t8, (pc_nd hX hp ht).1, wd_c_s]
  by_cases ok : ev_ok 78 t
  · rw [if_pos ok] at he
    by_cases k1 : tr_k t = 1
    · rw [if_pos k1] at he ⊢
      rw [pc_h3 hX hp, if_pos t8, (pc_nd hX hp ht).2.1, wd_c_s, wd_d_id]
      exact pc_Cf (l := pr_i (tr_v t)) hX pc_show n s S l s' he hp hn
    · rw [if_neg k1] at he ⊢
      by_cases k2 : tr_k t = 2
      · have hn1 : tr_v t = Int32.ofNat (tr_n t) ∧ tr_n t < 16 := by
          rcases ok with q | ⟨-, q1, q2⟩ | ⟨q, -⟩ | ⟨q, -⟩ | ⟨q, -⟩ | ⟨q | q | q | q | q, -⟩
          · exact absurd q k1
          · exact ⟨q1, q2⟩
          all_goals (rw [k2] at q; exact absurd q (by decide))
        rw [if_pos k2] at he ⊢
        rw [pc_h3 hX hp, if_pos t8, (pc_nd hX hp ht).2.1, wd_c_s, wd_d_id]
        exact pc_name hX hn1.1 hn1.2 n s S l s' he hp hn
      · rw [if_neg k2] at he ⊢
        by_cases k3 : tr_k t = 3
        · have hn1 : tr_v t = Int32.ofNat (tr_n t) ∧ tr_n t < 16 ∧ tr_a t = 2 := by
            rcases ok with q | ⟨q, -⟩ | ⟨-, q1, q2, q3⟩ | ⟨q, -⟩ | ⟨q, -⟩ | ⟨q | q | q | q | q, -⟩
            · exact absurd q k1
            · exact absurd q k2
            · exact ⟨q1, q2, q3⟩
            all_goals (rw [k3] at q; exact absurd q (by decide))
          rw [if_pos k3] at he ⊢
          rw [rp_133, wd_d_id]
          exact pc_let hX hS hr ht hn1.2.2 hn1.1 hn1.2.1 n s S l s' he hp hn
        · rw [if_neg k3] at he ⊢
          by_cases k4 : tr_k t = 4
          · have hn1 : tr_a t = 3 := by
              rcases ok with q | ⟨q, -⟩ | ⟨q, -⟩ | ⟨-, q1⟩ | ⟨q, -⟩ | ⟨q | q | q | q | q, -⟩
              · exact absurd q k1
              · exact absurd q k2
              · exact absurd q k3
              · exact q1
              all_goals (rw [k4] at q; exact absurd q (by decide))
            rw [if_pos k4] at he ⊢
            rw [rp_134, wd_d_id]
            exact pc_if hX hS hr ht hn1 n s S l s' he hp hn
          · rw [if_neg k4] at he ⊢
            by_cases k5 : tr_k t = 5
            · have hn1 : tr_v t = Int32.ofNat (tr_n t) ∧ tr_n t < 1000 ∧ tr_a t ≤ 4 := by
                rcases ok with q | ⟨q, -⟩ | ⟨q, -⟩ | ⟨q, -⟩ | ⟨-, q0, q1, q2⟩ | ⟨q | q | q | q | q, -⟩
                · exact absurd q k1
                · exact absurd q k2
                · exact absurd q k3
                · exact absurd q k4
                · exact ⟨q1, by omega, q0⟩
                all_goals (rw [k5] at q; exact absurd q (by decide))
              rw [if_pos k5] at he ⊢
              rw [rp_135, wd_d_id]
              exact pc_call hX hS hr ht hn1.2.2 hn1.1 hn1.2.1 n s S l s' he hp hn
            · have hn1 : (tr_k t = 6 ∨ tr_k t = 7 ∨ tr_k t = 8 ∨ tr_k t = 9 ∨ tr_k t = 10) ∧ tr_a t = 2 := by
                rcases ok with q | ⟨q, -⟩ | ⟨q, -⟩ | ⟨q, -⟩ | ⟨q, -⟩ | q
                · exact absurd q k1
                · exact absurd q k2
                · exact absurd q k3
                · exact absurd q k4
                · exact absurd q k5
                · exact q
              rw [if_neg k5] at he ⊢
              rw [rp_136, wd_d_id]
              exact pc_sign hX hS hr ht hn1.1 hn1.2 n s S l s' he hp hn
  · rw [if_neg ok] at he
    cases he
theorem pc_all (hX : pc_X v w S0) : ∀ r, r ≤ 96 → pc_S v w S0 pn r := by
  intro r
  induction r with
  | zero => intro _ y t d _ n s S l s' he _ _; cases he
  | succ r ih => intro hr; exact pc_s hX (ih (by omega)) hr
end Pc3
