/-! The reference: a function. -/
section Mfn
variable {T : Nat → Int32} {H n f p i c l B : Nat} {S S' : wd_S} {sc : List (Int64 × Nat)} {e : ps_E} {fs : List ps_F}
theorem mn_pars (h8 : n ≤ 8000) : ∀ (q F i : Nat) (sc : List (Int64 × Nat)) (S : wd_S), 6 ≤ q + sc.length → 10 ≤ F + sc.length → mq_h T n f sc.length i S → sc.length ≤ 4 → mq_n f sc S → ps_ps sc → ∃ F' S', fn_Mo_definition_210 F 1 S = fn_Mo_definition_210 (F' + 1) 0 S' ∧ of_f (mq_W f) S S' ∧ S'.1 135 31 = Int32.ofNat f ∧ match ps_b (ps_par (tk_K T n) (tk_V T n) sc i) (fun w => ps_pars (tk_K T n) (tk_V T n) q w.1 w.2) with
    | .error e => mt_e T n e S'
    | .ok w => mq_h T n f w.1.length w.2 S' ∧ mq_n f w.1 S' ∧ ps_ps w.1 ∧ w.1.length ≤ 4 ∧ i ≤ w.2 := by
  intro q
  induction q with
  | zero => intro F i sc S h1 h2 hm h4; omega
  | succ q ih =>
    intro F i sc S h1 h2 hm h4 hn hps
    have hf := hm.2.2.1
    have hin := ms_in hf (show 96 < 2147483648 by decide)
    obtain ⟨F, rfl⟩ : ∃ g, F = g + 3 := ⟨F - 3, by omega⟩
    rw [fn_Mo_definition_210, if_neg (by decide)]
    obtain ⟨x, S2, f2, o2, r2⟩ := mq_name h8 hm h4 hn
    rw [f2, wd_c_s]
    have e31 : S2.1 135 31 = Int32.ofNat f := by rw [o2.1 135 31 (by unfold mq_W nx_W; omega)]; exact hm.2.1
    unfold ps_par
    cases q1 : ps_new (tk_K T n) (ps_look (tk_V T n i) sc).isSome (decide (4 ≤ sc.length)) i with
    | error e =>
      rw [q1] at r2
      have h9 : ¬S2.1 135 9 = 0 := by rw [r2.2.1]; exact r2.1
      rw [if_neg h9]
      unfold fn_Mo_definition_240 fn_Mo_definition_260 fn_Mo_definition_261 fn_Mo_definition_270
      rw [if_neg h9, if_pos rfl]
      exact ⟨F + 1, S2, rfl, o2, e31, r2⟩
    | ok j =>
      rw [q1] at r2
      obtain ⟨q1a, q1b, q1c⟩ := ps_new_ok q1
      have q1c := of_decide_eq_false q1c
      obtain ⟨t1, t2, rfl, t4⟩ := ps_take_ok q1a
      obtain ⟨r2, a139, a142, a142', a138⟩ := r2
      rw [if_pos r2.2.2.1, e31, if_neg hin, if_neg hin, im_t (by omega), a138, im_s]
      simp only [wd_b]
      generalize hS3 : wd_i S2 138 f (Int32.ofNat (sc.length + 1)) = S3
      have o3 : of_f (fun a b => a = 138 ∧ b = f) S2 S3 := by rw [← hS3]; exact of_i ⟨rfl, rfl⟩ of_refl
      have t3 : mt_g T n (i + 1) S3 := mt_g_o r2 (fun a ha => by rw [ha]; exact funext (fun b => o3.1 _ _ (by omega))) (fun b hb => o3.1 _ _ (by omega)) (o3.2.1 _ _ (by omega))
      have O3 : of_f (mq_W f) S S3 := of_trans o2 (of_mono (fun a b z => Or.inr (Or.inl z)) o3)
      have m3 : mq_h T n f (sc.length + 1) (i + 1) S3 := ⟨t3, by rw [o3.1 135 31 (by omega)]; exact e31, hf, by rw [← hS3, fr_eq], by rw [o3.1 139 f (by omega)]; exact a139⟩
      have n3 : mq_n f ((tk_V T n i, sc.length) :: sc) S3 := ⟨by rw [o3.2.1 142 _ (by omega)]; exact a142, mq_n_o sc (fun b hb => by rw [o3.2.1 142 _ (by omega)]; exact a142' b hb) hn⟩
      have p3 : ps_ps ((tk_V T n i, sc.length) :: sc) := ⟨rfl, hps⟩
      unfold fn_Mo_definition_240 fn_Mo_definition_260
      have tk : S3.1 135 4 = 16 ↔ tk_K T n (i + 1) = 17 := ma_tok (kk := 17) t3 (by decide)
      rw [if_pos t3.2.2.1]
      show ∃ F' S', _ ∧ _ ∧ _ ∧ (match ps_pars (tk_K T n) (tk_V T n) (q + 1) ((tk_V T n i, sc.length) :: sc) (i + 1) with
        | .error e => mt_e T n e S'
        | .ok w => mq_h T n f w.1.length w.2 S' ∧ mq_n f w.1 S' ∧ ps_ps w.1 ∧ w.1.length ≤ 4 ∧ i ≤ w.2)
      unfold ps_pars
      by_cases c17 : tk_K T n (i + 1) = 17
      · rw [if_pos (tk.mpr c17), if_pos c17]
        unfold fn_Mo_definition_261 fn_Mo_definition_270
        rw [if_neg (by decide)]
        obtain ⟨S4, f4, o4, r4⟩ := mt_pass h8 t3 (by rw [c17]; decide)
        rw [c17] at r4
        rw [f4, wd_d_s]
        have O4 : of_f (mq_W f) S S4 := of_trans O3 (of_mono (fun a b z => Or.inl z) o4)
        have e31' : S4.1 135 31 = Int32.ofNat f := by rw [o4.1 135 31 (by unfold nx_W; omega)]; exact m3.2.1
        cases q2 : ps_take (tk_K T n) 17 (i + 1) with
        | error e =>
          rw [q2] at r4
          have h9 : ¬S4.1 135 9 = 0 := by rw [r4.2.1]; exact r4.1
          rw [fn_Mo_definition_210, if_neg (by decide)]
          have hname : fn_Mo_name 1 S4 = some (0, S4) := by
            unfold fn_Mo_name fn_Mo_name_25
            rw [if_neg h9, show wd_F = 999999 + 1 from rfl, mq_27b (f := f) e31' hf h9]
          rw [hname, wd_c_s, if_neg h9]
          unfold fn_Mo_definition_240 fn_Mo_definition_260 fn_Mo_definition_261 fn_Mo_definition_270
          rw [if_neg h9, if_pos rfl]
          exact ⟨F, S4, rfl, O4, e31', r4⟩
        | ok i2 =>
          rw [q2] at r4
          obtain ⟨-, t6, rfl, -⟩ := ps_take_ok q2
          have m4 : mq_h T n f ((tk_V T n i, sc.length) :: sc).length (i + 1 + 1) S4 := ⟨r4, e31', hf, by rw [o4.1 138 f (by unfold nx_W; omega)]; exact m3.2.2.2.1, by rw [o4.1 139 f (by unfold nx_W; omega)]; exact m3.2.2.2.2⟩
          obtain ⟨F', S5, f5, o5, e5, r5⟩ := ih (F + 2) (i + 1 + 1) ((tk_V T n i, sc.length) :: sc) S4 (by show 6 ≤ q + (sc.length + 1); omega) (by show 10 ≤ F + 2 + (sc.length + 1); omega) m4 (by show sc.length + 1 ≤ 4; omega) (mq_n_o _ (fun b hb => o4.2.1 142 _ (by unfold nx_W; omega)) n3) p3
          refine ⟨F', S5, f5, of_trans O4 o5, e5, ?_⟩
          show (match ps_b (ps_par (tk_K T n) (tk_V T n) ((tk_V T n i, sc.length) :: sc) (i + 1 + 1)) (fun w => ps_pars (tk_K T n) (tk_V T n) q w.1 w.2) with
            | .error e => mt_e T n e S5
            | .ok w => mq_h T n f w.1.length w.2 S5 ∧ mq_n f w.1 S5 ∧ ps_ps w.1 ∧ w.1.length ≤ 4 ∧ i ≤ w.2)
          cases q3 : ps_b (ps_par (tk_K T n) (tk_V T n) ((tk_V T n i, sc.length) :: sc) (i + 1 + 1)) (fun w => ps_pars (tk_K T n) (tk_V T n) q w.1 w.2) with
          | error e => rw [q3] at r5; exact r5
          | ok w =>
            rw [q3] at r5
            obtain ⟨z1, z2, z3, z4, z5⟩ := r5
            exact ⟨z1, z2, z3, z4, by omega⟩
      · rw [if_neg (fun z => c17 (tk.mp z)), if_neg c17]
        unfold fn_Mo_definition_261 fn_Mo_definition_270
        rw [if_pos rfl]
        exact ⟨F + 1, S3, rfl, O3, m3.2.1, m3, n3, p3, by show sc.length + 1 ≤ 4; omega, by show i ≤ i + 1; omega⟩
/-- how many nodes functions have -/
def ps_c : List ps_F → Nat
  | [] => 0
  | q :: r => q.2.2.2.2.1 + ps_c r
theorem ps_c_a (q : ps_F) : ∀ fs : List ps_F, ps_c (fs ++ [q]) = ps_c fs + q.2.2.2.2.1 := by
  intro fs
  induction fs with
  | nil => show q.2.2.2.2.1 + 0 = 0 + q.2.2.2.2.1; omega
  | cons p r ih => show p.2.2.2.2.1 + ps_c (r ++ [q]) = p.2.2.2.2.1 + ps_c r + q.2.2.2.2.1; omega
theorem ps_c_t : ∀ (fs : List ps_F) (j : Nat) (hj : j < fs.length), ps_c (fs.take (j + 1)) = ps_c (fs.take j) + fs[j].2.2.2.2.1 := by
  intro fs
  induction fs with
  | nil => intro j hj; exact absurd hj (Nat.not_lt_zero _)
  | cons q r ih =>
    intro j hj
    cases j with
    | zero => show q.2.2.2.2.1 + 0 = 0 + q.2.2.2.2.1; omega
    | succ j =>
      have hj : j < r.length := Nat.lt_of_succ_lt_succ hj
      show q.2.2.2.2.1 + ps_c (r.take (j + 1)) = q.2.2.2.2.1 + ps_c (r.take j) + r[j].2.2.2.2.1
      rw [ih j hj]
      omega
theorem ps_c_le : ∀ (fs : List ps_F) (i j : Nat), i ≤ j → ps_c (fs.take i) ≤ ps_c (fs.take j) := by
  intro fs
  induction fs with
  | nil => intro i j _; rw [List.take_nil, List.take_nil]; exact Nat.le_refl _
  | cons q r ih =>
    intro i j h
    cases i with
    | zero => exact Nat.zero_le _
    | succ i =>
      cases j with
      | zero => omega
      | succ j =>
        show q.2.2.2.2.1 + ps_c (r.take i) ≤ q.2.2.2.2.1 + ps_c (r.take j)
        have := ih i j (by omega)
        omega
theorem ps_c_f (fs : List ps_F) (j : Nat) : ps_c (fs.take j) ≤ ps_c fs := by
  have h := ps_c_le fs j (max j fs.length) (Nat.le_max_left _ _)
  rw [List.take_of_length_le (Nat.le_max_right j fs.length)] at h
  exact h
/-- a function of the reference's program -/
def mn_F (T : Nat → Int32) (n B f : Nat) (q : ps_F) (c l : Nat) (S : wd_S) : Prop := S.2.1 137 f = q.1 ∧ S.1 138 f = Int32.ofNat q.2.1 ∧ S.1 139 f = Int32.ofNat q.2.2.2.2.2 ∧ S.1 141 f = Int32.ofNat q.2.2.2.2.1 ∧ (∃ y, S.1 140 f = Int32.ofNat y ∧ mr_t T n f S c (c + q.2.2.2.2.1) (1501 * B) l 0 16 96 y q.2.2.1) ∧ ∃ sc, ps_ps sc ∧ sc.length = q.2.1 ∧ sc.length ≤ 4 ∧ mq_n f sc S ∧ rs_t (tk_V T n) 96 sc q.2.2.1 q.2.2.2.1
def mn_P (T : Nat → Int32) (n B : Nat) (fs : List ps_F) (c l : Nat) (S : wd_S) : Prop := S.1 135 25 = Int32.ofNat B ∧ S.1 135 26 = Int32.ofNat fs.length ∧ fs.length ≤ 48 ∧ S.1 135 27 = Int32.ofNat c ∧ S.1 135 28 = Int32.ofNat l ∧ S.1 135 30 = Int32.ofNat 0 ∧ c = 1501 * B + ps_c fs ∧ 1501 * B ≤ l ∧ ∀ j, (hj : j < fs.length) → mn_F T n B (48 * B + j) fs[j] (1501 * B + ps_c (fs.take j)) l S
/-- what reading a program may write -/
def mn_W (B a b : Nat) : Prop := (a = 135 ∧ ((3 ≤ b ∧ b ≤ 10) ∨ b = 26 ∨ b = 27 ∨ b = 28 ∨ b = 30 ∨ b = 31 ∨ b = 35 ∨ b = 37 ∨ b = 38)) ∨ (137 ≤ a ∧ a ≤ 141 ∧ 48 * B ≤ b ∧ b < 48 * B + 48) ∨ (a = 142 ∧ 768 * B ≤ b ∧ b < 768 * B + 768) ∨ (143 ≤ a ∧ a ≤ 149 ∧ 1501 * B ≤ b ∧ b < 1501 * B + 1501) ∨ a = 151 ∨ a = 152 ∨ a = 153 ∨ a = 155
theorem mn_F_o {q : ps_F} {l' : Nat} (hl : l ≤ l') (h1 : S'.2.1 137 f = S.2.1 137 f) (h2 : ∀ a, 138 ≤ a → a ≤ 141 → S'.1 a f = S.1 a f) (h3 : mr_g f c (c + q.2.2.2.2.1) (1501 * B) l 0 16 S S') (h : mn_F T n B f q c l S) : mn_F T n B f q c l' S' := by
  obtain ⟨a1, a2, a3, a4, ⟨y, a5, a6⟩, sc, b1, b2, b3, b4, b5⟩ := h
  refine ⟨h1.trans a1, (h2 138 (by omega) (by omega)).trans a2, (h2 139 (by omega) (by omega)).trans a3, (h2 141 (by omega) (by omega)).trans a4, ⟨y, (h2 140 (by omega) (by omega)).trans a5, mr_t_m (Nat.le_refl _) (Nat.le_refl _) (Nat.le_refl _) hl (Nat.le_refl _) (Nat.le_refl _) h3 _ _ _ a6⟩, sc, b1, b2, b3, mq_n_o sc (fun b hb => h3.2.2 b (Nat.zero_le _) (by omega)) b4, b5⟩
end Mfn
