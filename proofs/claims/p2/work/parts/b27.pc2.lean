/-! The class's printer: trees. -/
def pc_W (a b : Nat) : Prop := a = 127 ∨ (a = 128 ∧ (b = 5 ∨ b = 6 ∨ b = 7)) ∨ a = 130
def pc_V (n m a b : Nat) : Prop := (a = 127 ∧ n ≤ b ∧ b < m) ∨ (a = 128 ∧ (b = 5 ∨ b = 7)) ∨ a = 130
def pc_X (v : Nat) (w : Bool) (S0 : wd_S) : Prop := (v = 54 ∨ v = 79) ∧ S0.2.2.1 128 2 = v ∧ S0.2.2.1 128 3 = v + 2 ∧ S0.1 128 4 = (if w = true then 1 else 0)
def pc_h (S0 : wd_S) (pn n : Nat) (s : pr_S) (S : wd_S) : Prop := of_f pc_W S0 S ∧ S.1 128 5 = Int32.ofNat n ∧ S.1 128 6 = Int32.ofNat pn ∧ S.1 128 7 = Int32.ofNat s.1 ∧ s.1 ≤ n ∧ pn ≤ 4 ∧ ∀ i j, s.2 i = some j → i < 16 ∧ S.1 130 i = Int32.ofNat j ∧ j ≤ n
def pc_R (w : Bool) (S0 : wd_S) (pn n : Nat) (l : List Int32) (s' : pr_S) (S S' : wd_S) : Prop := pc_h S0 pn (n + l.length) s' S' ∧ of_f (pc_V n (n + l.length)) S S' ∧ (w = true → ∀ j, (hj : j < l.length) → S'.1 127 (n + j) = l[j])
def pc_C (w : Bool) (S0 : wd_S) (pn : Nat) (x : pr_S → pr_O) (f : wd_S → Option wd_S) : Prop := ∀ (n : Nat) (s : pr_S) (S : wd_S) (l : List Int32) (s' : pr_S), x s = some (l, s') → pc_h S0 pn n s S → n + l.length ≤ 40000 → ∃ S', f S = some S' ∧ pc_R w S0 pn n l s' S S'
section Pc2
variable {w : Bool} {v n m k pn y z d r j : Nat} {l l1 l2 : List Int32} {S0 S S' S1 S2 : wd_S} {f g : wd_S → Option wd_S} {x x1 y1 : pr_S → pr_O} {t : tr_T} {s s' s1 : pr_S}
theorem pr_b_ok {q : pr_O} {h : pr_S → pr_O} (e : pr_b q h = some (l, s')) : ∃ l1 s1 l2, q = some (l1, s1) ∧ h s1 = some (l2, s') ∧ l = l1 ++ l2 := by
  cases q with
  | none => cases e
  | some q =>
    have e : (match h q.2 with | none => none | some w => some (q.1 ++ w.1, w.2)) = some (l, s') := e
    cases hq : h q.2 with
    | none => rw [hq] at e; cases e
    | some w => rw [hq] at e; cases e; exact ⟨q.1, q.2, w.1, rfl, hq, rfl⟩
theorem pc_R_cat (h1 : pc_R w S0 pn n l1 s1 S S1) (h2 : pc_R w S0 pn (n + l1.length) l2 s' S1 S2) : pc_R w S0 pn n (l1 ++ l2) s' S S2 := by
  obtain ⟨a1, a2, a3⟩ := h1
  obtain ⟨b1, b2, b3⟩ := h2
  have el : (l1 ++ l2).length = l1.length + l2.length := List.length_append
  refine ⟨by rw [el, ← Nat.add_assoc]; exact b1, of_trans (of_mono (fun a b q => by unfold pc_V at *; omega) a2) (of_mono (fun a b q => by unfold pc_V at *; omega) b2), fun hw j hj => ?_⟩
  rw [el] at hj
  by_cases e : j < l1.length
  · rw [List.getElem_append_left e, b2.1 127 (n + j) (by unfold pc_V; omega)]
    exact a3 hw j e
  · rw [List.getElem_append_right (by omega)]
    have := b3 hw (j - l1.length) (by omega)
    rw [show n + l1.length + (j - l1.length) = n + j by omega] at this
    exact this
theorem pc_Cseq (hx : pc_C w S0 pn x f) (hy : pc_C w S0 pn y1 g) : pc_C w S0 pn (fun s => pr_b (x s) y1) (fun S => wd_d (f S) g) := fun n s S l s' he hp hn => by
  obtain ⟨l1, s1, l2, q1, q2, rfl⟩ := pr_b_ok he
  rw [List.length_append] at hn
  obtain ⟨S1, f1, r1⟩ := hx n s S l1 s1 q1 hp (by omega)
  obtain ⟨S2, f2, r2⟩ := hy (n + l1.length) s1 S1 l2 s' q2 r1.1 (by omega)
  exact ⟨S2, by show wd_d (f S) g = _; rw [f1, wd_d_s, f2], pc_R_cat r1 r2⟩
theorem pc_h4 (hX : pc_X v w S0) (hp : pc_h S0 pn n s S) : S.1 128 4 = (if w = true then 1 else 0) := by rw [hp.1.1 128 4 (by unfold pc_W; omega)]; exact hX.2.2.2
theorem pc_h3 (hX : pc_X v w S0) (hp : pc_h S0 pn n s S) : S.2.2.1 128 3 = v + 2 := by rw [hp.1.2.2]; exact hX.2.2.1
theorem pc_h2 (hX : pc_X v w S0) (hp : pc_h S0 pn n s S) : S.2.2.1 128 2 = v := by rw [hp.1.2.2]; exact hX.2.1
theorem pc_Cf (hX : pc_X v w S0) (hf : pc_f w l f) : pc_C w S0 pn (fun s => some (l, s)) f := fun n s S l' s' he hp hn => by
  cases he
  obtain ⟨S1, f1, o1⟩ := hf n S (pc_h4 hX hp) hp.2.1 hn
  obtain ⟨a1, a2, a3, a4, a5, a6, a7⟩ := hp
  refine ⟨S1, f1, ⟨of_trans a1 (of_mono (fun a b q => by unfold pc_W; omega) o1.1), o1.2.1, by rw [o1.1.1 128 6 (by omega)]; exact a3, by rw [o1.1.1 128 7 (by omega)]; exact a4, by omega, a6, fun i j hi => ?_⟩, of_mono (fun a b q => by unfold pc_V; omega) o1.1, o1.2.2⟩
  obtain ⟨b1, b2, b3⟩ := a7 i j hi
  exact ⟨b1, by rw [o1.1.1 130 i (by omega)]; exact b2, by omega⟩
theorem pc_vv (hX : pc_X v w S0) : tp_t v = (0, 9) ∧ tp_t (v + 1) = (0, 0) ∧ tp_t (v + 2) = (0, 8) ∧ nd_L (v + 2) 1000 ∧ (tp_t (v + 16)).2 = 78 ∧ (tp_t (v + 18)).2 = 78 := by
  rcases hX.1 with h | h <;> subst h <;> exact ⟨rfl, rfl, rfl, ⟨rfl, rfl, rfl, rfl, rfl, rfl⟩, rfl, rfl⟩
theorem pc_row (hX : pc_X v w S0) (hp : pc_h S0 pn n s S) : ∀ a, a < 127 → S.1 a = S0.1 a := fun a ha => funext fun k => hp.1.1 a k (by unfold pc_W; omega)
theorem pc_nd (hX : pc_X v w S0) (hp : pc_h S0 pn n s S) (ht : nd_t (v + 2) S0 0 1000 d y t) : fn_Trees_kind (v + 2) (Int32.ofNat y) S = some (tr_k t, S) ∧ fn_Trees_value (v + 2) (Int32.ofNat y) S = some (tr_v t, S) ∧ fn_Trees_parts (v + 2) (Int32.ofNat y) S = some (Int32.ofNat (tr_a t), S) ∧ ∀ j, j < 4 → j < tr_a t → ∃ z e, fn_Trees_part (v + 2) (Int32.ofNat y) (Int32.ofNat j) S = some (Int32.ofNat z, S) ∧ nd_t (v + 2) S0 0 1000 e z (tr_sub t j) := by
  obtain ⟨-, -, t8, ⟨g2, g4, g6, g8, g10, g12⟩, -⟩ := pc_vv hX
  have hv := hX.1
  have hr := pc_row hX hp
  cases d with
  | zero => exact absurd ht id
  | succ d =>
    obtain ⟨h1, h2, h3, h4, h5, h6⟩ := ht
    refine ⟨?_, ?_, ?_, fun j hj hja => ?_⟩
    · rw [fo_tkind, ro_an (r := v + 2 + 1) g2 h2, hr (v + 2 + 1 + 1) (by omega)]; exact congrArg some (Prod.ext h3 rfl)
    · rw [fo_tvalue, ro_an (r := v + 2 + 3) g4 h2, hr (v + 2 + 3 + 1) (by omega)]; exact congrArg some (Prod.ext h4 rfl)
    · rw [fo_tparts, ro_an (r := v + 2 + 5) g6 h2, hr (v + 2 + 5 + 1) (by omega)]; exact congrArg some (Prod.ext h5 rfl)
    · obtain ⟨z, e, hz⟩ := h6 j hj hja
      refine ⟨z, d, ?_, hz⟩
      rw [fo_tpart, if_neg (im_neg (by omega)), if_pos (show Int32.ofNat j < 4 from (im_lt (m := j) (n := 4) (by omega) (by omega)).mpr hj), show Int32.ofNat y * 4 + Int32.ofNat j = Int32.ofNat (4 * y + j) by rw [show (4 : Int32) = Int32.ofNat 4 from rfl, im_ma, Nat.mul_comm], ro_an (r := v + 2 + 7) g8 (show 4 * y + j < 4 * 1000 by omega), hr (v + 2 + 7 + 1) (by omega)]
      exact congrArg some (Prod.ext e rfl)
def pc_S (v : Nat) (w : Bool) (S0 : wd_S) (pn r : Nat) : Prop := ∀ (y : Nat) (t : tr_T) (d : Nat), nd_t (v + 2) S0 0 1000 d y t → pc_C w S0 pn (fun s => pr pn r s t) (rc_Printer_show (2 * r + 8) 130 (Int32.ofNat y) (Int32.ofNat (96 - r)))
/-- a part is shown, then the rest -/
theorem pc_part (hX : pc_X v w S0) (hS : pc_S v w S0 pn r) (hr : r + 1 ≤ 96) (ht : nd_t (v + 2) S0 0 1000 d y t) (hj : j < 4) (hja : j < tr_a t) {J : Int32} (hJ : J = Int32.ofNat j) (hg : pc_C w S0 pn y1 g) : pc_C w S0 pn (fun s => pr_b (pr pn r s (tr_sub t j)) y1) (fun S => if tp_t (S.2.2.1 128 3) = (0, 8) then (wd_c (fn_Trees_part (S.2.2.1 128 3) (Int32.ofNat y) J S) fun x6 S5 => wd_d (rc_Printer_show (2 * r + 8) 130 x6 (Int32.ofNat (96 - (r + 1)) + 1) S5) g) else none) := fun n s S l s' he hp hn => by
  obtain ⟨-, -, -, h4⟩ := pc_nd hX hp ht
  obtain ⟨z, e, f1, f2⟩ := h4 j hj hja
  obtain ⟨-, -, t8, -⟩ := pc_vv hX
  subst hJ
  show ∃ S', (if tp_t (S.2.2.1 128 3) = (0, 8) then _ else none) = some S' ∧ _
  rw [pc_h3 hX hp, if_pos t8, f1, wd_c_s, cm_96 hr]
  exact pc_Cseq (hS z _ e f2) hg n s S l s' he hp hn
theorem pc_sign (hX : pc_X v w S0) (hS : pc_S v w S0 pn r) (hr : r + 1 ≤ 96) (ht : nd_t (v + 2) S0 0 1000 d y t) (hk : tr_k t = 6 ∨ tr_k t = 7 ∨ tr_k t = 8 ∨ tr_k t = 9 ∨ tr_k t = 10) (ha : tr_a t = 2) : pc_C w S0 pn (fun s => pr_b (some ([40], s)) (fun s => pr_b (pr pn r s (tr_sub t 0)) fun s => pr_b (some (pr_x (pr_sx (tr_k t)), s)) fun s => pr_b (pr pn r s (tr_sub t 1)) fun s => some ([41], s))) (fn_Printer_showSign (rc_Printer_show (2 * r + 8)) (Int32.ofNat y) (Int32.ofNat (96 - (r + 1)))) := by
  obtain ⟨-, -, t8, -⟩ := pc_vv hX
  unfold fn_Printer_showSign
  refine pc_Cseq (x := fun s => some ([40], s)) (pc_Cf hX pc_put) ?_
  refine pc_part (J := 0) hX hS hr ht (by decide) (by omega) rfl ?_
  have htx : (tb_txt.getD (pr_sx (tr_k t)) []).length < 100 := by rcases hk with z | z | z | z | z <;> rw [z] <;> decide
  have hend : pc_C w S0 pn (fun s => some ([41], s)) (fun S => wd_d (fn_Printer_put 41 S) fun S => some S) := fun n s S l s' he hp hn => by
    show ∃ S', wd_d (fn_Printer_put 41 S) (fun S => some S) = some S' ∧ _
    rw [wd_d_id]
    exact pc_Cf hX pc_put n s S l s' he hp hn
  have h2 := pc_part (J := 1) (pn := pn) hX hS hr ht (j := 1) (by decide) (by omega) rfl hend
  have h3 := pc_Cseq (x := fun s => some (pr_x (pr_sx (tr_k t)), s)) (pc_Cf hX (pc_text htx)) h2
  intro n s S l s' he hp hn
  show ∃ S', (if tp_t (S.2.2.1 128 3) = (0, 8) then _ else none) = some S' ∧ _
  have es : fn_Printer_signText (tr_k t) S = some (pr_sx (tr_k t), S) := by
    unfold fn_Printer_signText pr_sx
    rcases hk with z | z | z | z | z <;> rw [z] <;> rfl
  rw [pc_h3 hX hp, if_pos t8, (pc_nd hX hp ht).1, wd_c_s, es, wd_c_s]
  exact h3 n s S l s' he hp hn
theorem pc_if (hX : pc_X v w S0) (hS : pc_S v w S0 pn r) (hr : r + 1 ≤ 96) (ht : nd_t (v + 2) S0 0 1000 d y t) (ha : tr_a t = 3) : pc_C w S0 pn (fun s => pr_b (some (pr_x 24, s)) (fun s => pr_b (pr pn r s (tr_sub t 0)) fun s => pr_b (some (pr_x 25, s)) fun s => pr_b (pr pn r s (tr_sub t 1)) fun s => pr_b (some (pr_x 26, s)) fun s => pr_b (pr pn r s (tr_sub t 2)) fun s => some ([41], s))) (fn_Printer_showIf (rc_Printer_show (2 * r + 8)) (Int32.ofNat y) (Int32.ofNat (96 - (r + 1)))) := by
  unfold fn_Printer_showIf
  refine pc_Cseq (x := fun s => some (pr_x 24, s)) (pc_Cf hX (pc_text (by decide))) ?_
  refine pc_part (J := 0) hX hS hr ht (by decide) (by omega) rfl ?_
  refine pc_Cseq (x := fun s => some (pr_x 25, s)) (pc_Cf hX (pc_text (by decide))) ?_
  refine pc_part (J := 1) hX hS hr ht (by decide) (by omega) rfl ?_
  refine pc_Cseq (x := fun s => some (pr_x 26, s)) (pc_Cf hX (pc_text (by decide))) ?_
  refine pc_part (J := 2) hX hS hr ht (by decide) (by omega) rfl ?_
  intro n s S l s' he hp hn
  show ∃ S', wd_d (fn_Printer_put 41 S) (fun S => some S) = some S' ∧ _
  rw [wd_d_id]
  exact pc_Cf hX pc_put n s S l s' he hp hn
theorem pc_129 : (tp_t (129 + 1)).2 = 16 := rfl
theorem pc_let (hX : pc_X v w S0) (hS : pc_S v w S0 pn r) (hr : r + 1 ≤ 96) (ht : nd_t (v + 2) S0 0 1000 d y t) (ha : tr_a t = 2) (hv : tr_v t = Int32.ofNat (tr_n t)) (hi : tr_n t < 16) : pc_C w S0 pn (fun s => pr_b (some (pr_x 21 ++ pr_n s.1 ++ pr_x 22, s.1 + 1, pr_u s.2 (tr_n t) s.1)) (fun s => pr_b (pr pn r s (tr_sub t 0)) fun s => pr_b (some (pr_x 23, s)) fun s => pr_b (pr pn r s (tr_sub t 1)) fun s => some ([41], s))) (fn_Printer_showLet (rc_Printer_show (2 * r + 8)) (Int32.ofNat y) (Int32.ofNat (96 - (r + 1)))) := by
  obtain ⟨-, -, t8, -⟩ := pc_vv hX
  have hend : pc_C w S0 pn (fun s => some ([41], s)) (fun S => wd_d (fn_Printer_put 41 S) fun S => some S) := fun n s S l s' he hp hn => by
    show ∃ S', wd_d (fn_Printer_put 41 S) (fun S => some S) = some S' ∧ _
    rw [wd_d_id]
    exact pc_Cf hX pc_put n s S l s' he hp hn
  have h1 := pc_part (J := 1) (pn := pn) hX hS hr ht (j := 1) (by decide) (by omega) rfl hend
  have h2 := pc_Cseq (x := fun s => some (pr_x 23, s)) (pc_Cf hX (pc_text (by decide))) h1
  have h3 := pc_part (J := 0) hX hS hr ht (j := 0) (by decide) (by omega) rfl h2
  intro n s S l s' he hp hn
  obtain ⟨l1, s1, l2, q1, q2, rfl⟩ := pr_b_ok he
  cases q1
  rw [List.length_append] at hn
  have hs0 := hp.2.2.2.2.1
  unfold fn_Printer_showLet
  rw [pc_h3 hX hp, if_pos t8, (pc_nd hX hp ht).2.1, wd_c_s]
  have hA := pc_seq (w := w) (pc_seq (w := w) (pc_text (t := 21) (by decide)) (pc_num (m := s.1) (by omega))) (pc_text (t := 22) (by decide))
  obtain ⟨Sa, fa, ra⟩ := pc_Cf (pn := pn) hX hA n s S _ s rfl hp (by omega)
  obtain ⟨a1, a2, a3, a4, a5, a6, a7⟩ := ra.1
  generalize hL : pr_x 21 ++ pr_n s.1 ++ pr_x 22 = LL at *
  have hLL : 1 ≤ LL.length := by
    rw [← hL, List.length_append, List.length_append]
    have : (pr_x 21).length = 6 := rfl
    omega
  have fcode : ∀ K : wd_S → Option wd_S, (wd_d (fn_Printer_putText 21 S) fun S5 => wd_d (fn_Printer_putNumber (S5.1 128 7) S5) fun S8 => wd_d (fn_Printer_putText 22 S8) K) = K Sa := fun K => by
    obtain ⟨Sx, fx, ox⟩ := pc_text (w := w) (t := 21) (by decide) n S (pc_h4 hX hp) hp.2.1 (by rw [← hL, List.length_append, List.length_append] at hn; omega)
    have fa : wd_d (wd_d (fn_Printer_putText 21 S) (fn_Printer_putNumber (Int32.ofNat s.1))) (fn_Printer_putText 22) = some Sa := fa
    rw [fx, wd_d_s] at fa ⊢
    rw [show Sx.1 128 7 = Int32.ofNat s.1 by rw [ox.1.1 128 7 (by omega)]; exact hp.2.2.2.1]
    cases hy : fn_Printer_putNumber (Int32.ofNat s.1) Sx with
    | none => rw [hy] at fa; cases fa
    | some Sy =>
      rw [hy, wd_d_s] at fa
      rw [wd_d_s, fa, wd_d_s]
  rw [fcode]
  rw [hv, ro_put_ok, wd_d_s, ro_pn pc_129 hi, a4]
  simp only [wd_b]
  rw [fr_ne (show ¬(128 = 129 + 1 ∧ _) by omega), a4, im_s]
  generalize hSb : wd_i (wd_i Sa (129 + 1) (tr_n t) (Int32.ofNat s.1)) 128 7 (Int32.ofNat (s.1 + 1)) = Sb
  have ob : of_f (fun a b => (a = 130 ∧ b = tr_n t) ∨ (a = 128 ∧ b = 7)) Sa Sb := by
    rw [← hSb]
    exact of_i (by omega) (of_i (by omega) of_refl)
  have hpb : pc_h S0 pn (n + LL.length) (s.1 + 1, pr_u s.2 (tr_n t) s.1) Sb := by
    refine ⟨of_trans a1 (of_mono (fun a b q => by unfold pc_W; omega) ob), by rw [ob.1 128 5 (by omega)]; exact a2, by rw [ob.1 128 6 (by omega)]; exact a3, by rw [← hSb, fr_eq], by show s.1 + 1 ≤ n + LL.length; omega, a6, fun i j hij => ?_⟩
    have hij : pr_u s.2 (tr_n t) s.1 i = some j := hij
    unfold pr_u at hij
    split at hij
    · next ei =>
      cases hij
      subst ei
      exact ⟨hi, by rw [← hSb, fr_ne (by omega), fr_e (by omega)], by omega⟩
    · next ei =>
      obtain ⟨b1, b2, b3⟩ := a7 i j hij
      exact ⟨b1, by rw [ob.1 130 i (by omega)]; exact b2, b3⟩
  obtain ⟨Sc, fc, rc⟩ := h3 (n + LL.length) (s.1 + 1, pr_u s.2 (tr_n t) s.1) Sb l2 s' q2 hpb (by omega)
  refine ⟨Sc, fc, ?_⟩
  have rab : pc_R w S0 pn n LL (s.1 + 1, pr_u s.2 (tr_n t) s.1) S Sb := ⟨hpb, of_trans ra.2.1 (of_mono (fun a b q => by unfold pc_V; omega) ob), fun hw j hj => by rw [ob.1 127 _ (by omega)]; exact ra.2.2 hw j hj⟩
  exact pc_R_cat rab rc
theorem pc_name (hX : pc_X v w S0) (hv : tr_v t = Int32.ofNat (tr_n t)) (hi : tr_n t < 16) : pc_C w S0 pn (fun s => if tr_n t < pn then some ([97 + tr_v t], s) else match s.2 (tr_n t) with
    | none => none
    | some j => some (120 :: pr_n j, s)) (fn_Printer_showName (tr_v t)) := fun n s S l s' he hp hn => by
  have hp6 := hp.2.2.2.2.2.1
  dsimp only at he
  unfold fn_Printer_showName fn_Printer_showName_37
  rw [hp.2.2.1, hv]
  by_cases e : tr_n t < pn
  · rw [if_pos e] at he
    cases he
    rw [if_pos ((im_lt (by omega) (by omega)).mpr e), wd_d_id, hv]
    rw [hv] at hn
    exact pc_Cf hX pc_put n s S _ s rfl hp hn
  · rw [if_neg e] at he
    rw [if_neg (fun q => e ((im_lt (by omega) (by omega)).mp q))]
    cases hj : s.2 (tr_n t) with
    | none => rw [hj] at he; cases he
    | some j =>
      rw [hj] at he
      cases he
      obtain ⟨b1, b2, b3⟩ := hp.2.2.2.2.2.2 (tr_n t) j hj
      have hn' : n + (pr_n j).length + 1 ≤ 40000 := hn
      have hA := pc_seq (w := w) (pc_put (x := 120)) (pc_num (w := w) (m := j) (by omega))
      obtain ⟨Sa, fa, ra⟩ := pc_Cf (pn := pn) hX hA n s S _ s rfl hp hn
      refine ⟨Sa, ?_, ra⟩
      obtain ⟨Sx, fx, ox⟩ := pc_put (w := w) (x := 120) n S (pc_h4 hX hp) hp.2.1 (by show n + 1 ≤ 40000; omega)
      have fa : wd_d (fn_Printer_put 120 S) (fn_Printer_putNumber (Int32.ofNat j)) = some Sa := fa
      rw [fx, wd_d_s] at fa ⊢
      rw [ro_at_ok, wd_c_s, ro_an pc_129 hi, ox.1.1 (129 + 1) _ (by omega), show S.1 (129 + 1) (tr_n t) = Int32.ofNat j from b2, fa, wd_d_s]
end Pc2
