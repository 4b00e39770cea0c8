/-! The class's printer: bytes, texts, numbers. -/
def pc_o (w : Bool) (n : Nat) (l : List Int32) (S S' : wd_S) : Prop := of_f (fun a b => (a = 128 ∧ b = 5) ∨ (a = 127 ∧ n ≤ b ∧ b < n + l.length)) S S' ∧ S'.1 128 5 = Int32.ofNat (n + l.length) ∧ (w = true → ∀ j, (hj : j < l.length) → S'.1 127 (n + j) = l[j])
/-- code f prints l -/
def pc_f (w : Bool) (l : List Int32) (f : wd_S → Option wd_S) : Prop := ∀ (n : Nat) (S : wd_S), S.1 128 4 = (if w = true then 1 else 0) → S.1 128 5 = Int32.ofNat n → n + l.length ≤ 40000 → ∃ S', f S = some S' ∧ pc_o w n l S S'
section Pc
variable {w : Bool} {n m k : Nat} {l l1 l2 : List Int32} {S S' S1 S2 : wd_S} {f g : wd_S → Option wd_S} {x : Int32}
theorem pc_cat (h1 : pc_o w n l1 S S1) (h2 : pc_o w (n + l1.length) l2 S1 S2) : pc_o w n (l1 ++ l2) S S2 := by
  obtain ⟨a1, a2, a3⟩ := h1
  obtain ⟨b1, b2, b3⟩ := h2
  have el : (l1 ++ l2).length = l1.length + l2.length := List.length_append
  refine ⟨of_trans (of_mono (fun a b q => by omega) a1) (of_mono (fun a b q => by omega) b1), by rw [b2, el, Nat.add_assoc], fun hw j hj => ?_⟩
  rw [el] at hj
  by_cases e : j < l1.length
  · rw [List.getElem_append_left e, b1.1 127 (n + j) (by omega)]
    exact a3 hw j e
  · rw [List.getElem_append_right (by omega)]
    have := b3 hw (j - l1.length) (by omega)
    rw [show n + l1.length + (j - l1.length) = n + j by omega] at this
    exact this
theorem pc_nil : pc_f w [] (fun S => some S) := fun n S _ h5 _ => ⟨S, rfl, of_refl, h5, fun _ j hj => absurd hj (Nat.not_lt_zero _)⟩
theorem pc_seq (hf : pc_f w l1 f) (hg : pc_f w l2 g) : pc_f w (l1 ++ l2) (fun S => wd_d (f S) g) := fun n S h4 h5 hn => by
  rw [List.length_append] at hn
  obtain ⟨S1, f1, o1⟩ := hf n S h4 h5 (by omega)
  obtain ⟨S2, f2, o2⟩ := hg (n + l1.length) S1 (by rw [o1.1.1 128 4 (by omega)]; exact h4) o1.2.1 (by omega)
  exact ⟨S2, by show wd_d (f S) g = _; rw [f1, wd_d_s, f2], pc_cat o1 o2⟩
theorem pc_127 : (tp_t (126 + 1)).2 = 40000 := rfl
theorem pc_put : pc_f w [x] (fn_Printer_put x) := fun n S h4 h5 hn => by
  have hn : n + 1 ≤ 40000 := hn
  unfold fn_Printer_put fn_Printer_put_19
  simp only [wd_b]
  cases w with
  | false =>
    rw [if_neg (show ¬false = true by decide)] at h4
    rw [if_pos h4, h5, im_s]
    exact ⟨_, rfl, of_i (by omega) of_refl, fr_eq, fun q => by cases q⟩
  | true =>
    rw [if_pos (rfl : true = true)] at h4
    rw [if_neg (by rw [h4]; decide), h5, ro_put_ok, wd_d_s, ro_pn pc_127 (show n < 40000 by omega), fr_ne (show ¬(128 = 126 + 1 ∧ _) by omega), h5, im_s]
    refine ⟨_, rfl, of_i (by omega) (of_i (by show _ ∨ (126 + 1 = 127 ∧ n ≤ n ∧ n < n + 1); omega) of_refl), fr_eq, fun _ j hj => ?_⟩
    have hj : j = 0 := by have : j < 1 := hj; omega
    subst hj
    rw [fr_ne (by omega), fr_e (by omega)]
    rfl
theorem pc_txt {t : Nat} (ht : (tb_txt.getD t []).length < 100) : ∀ (r i F : Nat), i + r = (tb_txt.getD t []).length → pc_f w ((pr_x t).drop i) (fn_Printer_putText_2 (F + 1 + r) t (Int32.ofNat i)) := by
  have hl : (pr_x t).length = (tb_txt.getD t []).length := List.length_map _
  have e1 : mi_pr tb_P 1000 [.retAddr t] = some (.int (Int32.ofNat (tb_txt.getD t []).length)) := rfl
  intro r
  induction r with
  | zero =>
    intro i F hi n S h4 h5 hn
    have hi : i = (tb_txt.getD t []).length := hi
    have ed : (pr_x t).drop i = [] := List.drop_eq_nil_of_le (by omega)
    rw [ed]
    rw [Nat.add_zero, fn_Printer_putText_2, e1]
    show ∃ S', (if Int32.ofNat i < Int32.ofNat (tb_txt.getD t []).length then _ else some S) = some S' ∧ _
    rw [hi, if_neg Int32.lt_irrefl]
    exact pc_nil n S h4 h5 (by rw [ed] at hn; exact hn)
  | succ r ih =>
    intro i F hi
    have hil : i < (tb_txt.getD t []).length := by omega
    have e2 : mi_pr tb_P 1001 [.retAddr t, .int (Int32.ofNat i)] = some (.int ((pr_x t)[i]'(by rw [hl]; exact hil))) := by
      show (if 1001 = 1001 ∧ ¬(Int32.ofNat i < 0 ∨ (tb_txt.getD t []).length ≤ (Int32.ofNat i).toNatClampNeg) then some (Value.int (nI ((tb_txt.getD t []).getD (Int32.ofNat i).toNatClampNeg 0))) else none) = _
      rw [if_pos ⟨rfl, ms_in hil (by omega)⟩, im_t (show i < 2147483648 by omega), List.getD_eq_getElem?_getD, List.getElem?_eq_getElem hil]
      congr 2
      exact (List.getElem_map _).symm
    have ed : (pr_x t).drop i = [(pr_x t)[i]'(by rw [hl]; exact hil)] ++ (pr_x t).drop (i + 1) := List.drop_eq_getElem_cons (by rw [hl]; exact hil)
    rw [ed]
    have hs := pc_seq (w := w) (pc_put (x := (pr_x t)[i]'(by rw [hl]; exact hil))) (ih (i + 1) F (by omega))
    intro n S h4 h5 hn
    obtain ⟨S', f', o'⟩ := hs n S h4 h5 hn
    refine ⟨S', ?_, o'⟩
    show fn_Printer_putText_2 (F + 1 + r + 1) t (Int32.ofNat i) S = some S'
    rw [fn_Printer_putText_2, e1]
    show (if Int32.ofNat i < Int32.ofNat (tb_txt.getD t []).length then wd_p (mi_pr tb_P 1001 [.retAddr t, .int (Int32.ofNat i)]) _ else some S) = some S'
    rw [if_pos ((im_lt (by omega) (by omega)).mpr hil), e2, ← f']
    show wd_d (fn_Printer_put _ S) (fun S6 => fn_Printer_putText_2 (F + 1 + r) t (Int32.ofNat i + 1) S6) = wd_d (fn_Printer_put _ S) _
    rw [im_s]
theorem pc_text {t : Nat} (ht : (tb_txt.getD t []).length < 100) : pc_f w (pr_x t) (fn_Printer_putText t) := fun n S h4 h5 hn => by
  have := pc_txt (w := w) ht (tb_txt.getD t []).length 0 (999999 - (tb_txt.getD t []).length) (Nat.zero_add _) n S h4 h5 hn
  rw [show 999999 - (tb_txt.getD t []).length + 1 + (tb_txt.getD t []).length = wd_F by rw [show wd_F = 1000000 from rfl]; omega] at this
  exact this
/-- figures from 10^k down -/
theorem pc_24d (hm : m < 2147483648) : ∀ (k F : Nat), k < 10 → k + 2 ≤ F → (k = 0 ∨ 10 ^ k ≤ m) → pc_f w (pr_d m k) (fn_Printer_putNumber_24 F (Int32.ofNat m) (Int32.ofNat (10 ^ k))) := by
  intro k
  have e38 : ∀ (k F : Nat) (S : wd_S), k < 10 → fn_Printer_putNumber_38 (fn_Printer_putNumber_24 F) (Int32.ofNat m) (Int32.ofNat (10 ^ k)) S = wd_d (fn_Printer_put (48 + Int32.ofNat (m / 10 ^ k % 10)) S) (fn_Printer_putNumber_24 F (Int32.ofNat m) (Int32.ofNat (10 ^ k / 10))) := fun k F S hk => by
    have hp := pr_10 k hk
    have h0 : 0 < 10 ^ k := Nat.pow_pos (by decide)
    have hq : m / 10 ^ k < 2147483648 := Nat.lt_of_le_of_lt (Nat.div_le_self _ _) hm
    unfold fn_Printer_putNumber_38 fn_Printer_putNumber_51
    rw [if_neg (fun q => by have := (im_eq (m := 10 ^ k) (n := 0) hp (by omega)).mp q; omega), im_div hm hp, im_mod hq, show (10 : Int32) = Int32.ofNat 10 from rfl, im_div hp (by decide)]
  induction k with
  | zero =>
    intro F _ hF _
    obtain ⟨F, rfl⟩ : ∃ q, F = q + 1 + 1 := ⟨F - 2, by omega⟩
    intro n S h4 h5 hn
    obtain ⟨S', f', o'⟩ := pc_seq (w := w) (pc_put (x := 48 + Int32.ofNat (m / 10 ^ 0 % 10))) pc_nil n S h4 h5 hn
    have e0 : m / 10 ^ 0 % 10 = m % 10 := by rw [Nat.pow_zero, Nat.div_one]
    rw [e0] at f' o'
    refine ⟨S', ?_, o'⟩
    have ez : ∀ S, fn_Printer_putNumber_24 (F + 1) (Int32.ofNat m) (Int32.ofNat (10 ^ 0 / 10)) S = some S := fun S => by
      rw [fn_Printer_putNumber_24, if_neg (show ¬(0 : Int32) < Int32.ofNat (10 ^ 0 / 10) by decide)]
    rw [fn_Printer_putNumber_24, if_pos (show (0 : Int32) < Int32.ofNat (10 ^ 0) by decide), if_pos (show Int32.ofNat (10 ^ 0) = 1 by decide), ite_self, e38 0 (F + 1) S (by decide), e0, ← f']
    congr 1
  | succ k ih =>
    intro F hk hF hge
    obtain ⟨F, rfl⟩ : ∃ q, F = q + 1 := ⟨F - 1, by omega⟩
    have hge : 10 ^ (k + 1) ≤ m := by omega
    have hp := pr_10 (k + 1) hk
    have h10 : 10 ^ (k + 1) / 10 = 10 ^ k := by rw [Nat.pow_succ, Nat.mul_div_cancel _ (by decide)]
    have hle : 10 ^ k ≤ 10 ^ (k + 1) := Nat.pow_le_pow_right (by decide) (Nat.le_succ k)
    intro n S h4 h5 hn
    obtain ⟨S', f', o'⟩ := pc_seq (w := w) (pc_put (x := 48 + Int32.ofNat (m / 10 ^ (k + 1) % 10))) (ih F (by omega) (by omega) (Or.inr (by omega))) n S h4 h5 hn
    refine ⟨S', ?_, o'⟩
    rw [fn_Printer_putNumber_24, if_pos (show (0 : Int32) < Int32.ofNat (10 ^ (k + 1)) from (im_lt (m := 0) (by omega) hp).mpr (Nat.pow_pos (by decide))), if_neg (fun q => by have := (im_lt hm hp).mp q; omega), e38 (k + 1) F S hk, h10]
    exact f'
/-- skipping the units that are too great -/
theorem pc_24 (hm : m < 2147483648) : ∀ (k F : Nat), k < 10 → k + 2 ≤ F → pc_f w (pr_d m (pr_k m k)) (fn_Printer_putNumber_24 F (Int32.ofNat m) (Int32.ofNat (10 ^ k))) := by
  intro k
  induction k with
  | zero => intro F hk hF; exact pc_24d hm 0 F hk hF (Or.inl rfl)
  | succ k ih =>
    intro F hk hF
    unfold pr_k
    split
    · next h => exact pc_24d hm (k + 1) F hk hF (Or.inr h)
    · next h =>
      obtain ⟨F, rfl⟩ : ∃ q, F = q + 1 := ⟨F - 1, by omega⟩
      have hp := pr_10 (k + 1) hk
      have h10 : 10 ^ (k + 1) / 10 = 10 ^ k := by rw [Nat.pow_succ, Nat.mul_div_cancel _ (by decide)]
      have h2 : 10 ≤ 10 ^ (k + 1) := by
        rw [Nat.pow_succ]
        have : 1 ≤ 10 ^ k := Nat.pow_pos (by decide)
        omega
      intro n S h4 h5 hn
      obtain ⟨S', f', o'⟩ := ih F (by omega) (by omega) n S h4 h5 hn
      refine ⟨S', ?_, o'⟩
      unfold fn_Printer_putNumber_24
      rw [if_pos (show (0 : Int32) < Int32.ofNat (10 ^ (k + 1)) from (im_lt (m := 0) (by omega) hp).mpr (Nat.pow_pos (by decide))), if_pos ((im_lt hm hp).mpr (by omega)), if_neg (show ¬Int32.ofNat (10 ^ (k + 1)) = 1 from fun q => by have := (im_eq (m := 10 ^ (k + 1)) (n := 1) hp (by omega)).mp q; omega)]
      unfold fn_Printer_putNumber_51
      rw [show (10 : Int32) = Int32.ofNat 10 from rfl, im_div hp (by decide), h10]
      exact f'
theorem pc_num (hm : m < 2147483648) : pc_f w (pr_n m) (fn_Printer_putNumber (Int32.ofNat m)) := fun n S h4 h5 hn => by
  obtain ⟨S', f', o'⟩ := pc_24 (w := w) hm 9 wd_F (by decide) (by rw [show wd_F = 1000000 from rfl]; omega) n S h4 h5 hn
  refine ⟨S', ?_, o'⟩
  unfold fn_Printer_putNumber fn_Printer_putNumber_10 fn_Printer_putNumber_21
  rw [if_neg (im_neg hm), if_neg (im_neg hm)]
  exact f'
theorem pc_numx {v : Int32} (h1 : ¬v = -2147483648) : pc_f w (pr_i v) (fn_Printer_putNumber v) := by
  unfold pr_i
  rw [if_neg h1]
  by_cases h2 : v < 0
  · rw [if_pos h2]
    have h3 := im_neg_n h1 h2
    have e := im_of h3
    have hs := pc_seq (w := w) (pc_put (x := 45)) (pc_24 (w := w) (im_tl (-v)) 9 wd_F (by decide) (by rw [show wd_F = 1000000 from rfl]; omega))
    intro n S h4 h5 hn
    obtain ⟨S', f', o'⟩ := hs n S h4 h5 hn
    refine ⟨S', ?_, o'⟩
    unfold fn_Printer_putNumber fn_Printer_putNumber_10 fn_Printer_putNumber_21
    rw [if_pos h2, if_pos h2, ← f', e]
    rfl
  · rw [if_neg h2]
    have := pc_num (w := w) (im_tl v)
    rw [im_of h2] at this
    exact this
theorem pc_show {v : Int32} : pc_f w (pr_i v) (fn_Printer_showNumber v) := by
  intro n S h4 h5 hn
  unfold fn_Printer_showNumber fn_Printer_showNumber_20
  rw [wd_d_id, wd_d_id]
  by_cases h1 : v = -2147483648
  · rw [if_pos h1]
    have e : pr_i v = pr_x 20 := if_pos h1
    rw [e] at hn ⊢
    exact pc_text (by decide) n S h4 h5 hn
  · rw [if_neg h1]
    exact pc_numx h1 n S h4 h5 hn
end Pc
