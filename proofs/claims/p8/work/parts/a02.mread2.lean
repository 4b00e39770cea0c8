/-! The reference's read. -/
/-- what a read that fails may write -/
def mo_We (B a b : Nat) : Prop := (a = 135 ∧ (b = 0 ∨ (2 ≤ b ∧ b ≤ 10) ∨ (25 ≤ b ∧ b ≤ 28) ∨ b = 30 ∨ b = 31 ∨ b = 35 ∨ b = 37 ∨ b = 38 ∨ b = 40)) ∨ (137 ≤ a ∧ a ≤ 141 ∧ 48 * B ≤ b ∧ b < 48 * B + 48) ∨ (a = 142 ∧ 768 * B ≤ b ∧ b < 768 * B + 768) ∨ (143 ≤ a ∧ a ≤ 149 ∧ 1501 * B ≤ b ∧ b < 1501 * B + 1501) ∨ a = 151 ∨ a = 152 ∨ a = 153 ∨ a = 155 ∨ a = 156
def mo_W (B a b : Nat) : Prop := mo_We B a b ∨ (a = 135 ∧ (b = 41 ∨ b = 42 ∨ b = 59 ∨ b = 60 ∨ b = 61 ∨ b = 62 ∨ b = 72)) ∨ (a = 150 ∧ b = B)
section Mrd2
variable {T : Nat → Int32} {n f B k y lo hi l c p : Nat} {S S' S1 : wd_S} {fs : List ps_F} {e : ps_E}
theorem mo_We_n : ∀ a b, mn_W B a b → mo_We B a b := fun a b z => by
  unfold mn_W at z
  unfold mo_We
  omega
theorem mo_We_u : ∀ a b, mu_W B a b → mo_We B a b := fun a b z => by
  unfold mu_W at z
  unfold mo_We
  omega
def mo_rd (B : Nat) (T : Nat → Int32) (n : Nat) (S : wd_S) (x : Int32) (S' : wd_S) : Prop := S'.1 135 0 = 0 ∧ S'.1 135 2 = 0 ∧ match ps_read (tk_K T n) (tk_V T n) with
    | .error e => of_f (mo_We B) S S' ∧ x = -e.1 ∧ ¬e.1 = 0 ∧ S'.1 135 10 = Int32.ofNat (tk_p T n e.2)
    | .ok fs => of_f (mo_W B) S S' ∧ x = Int32.ofNat fs.length ∧ S'.1 135 10 = -1 ∧ S'.1 135 42 = Int32.ofNat B ∧ S'.1 135 41 = 1 ∧ S'.1 150 B = Int32.ofNat fs.length ∧ S'.1 135 59 = 0 ∧ S'.1 135 60 = 0 ∧ S'.1 135 61 = 0 ∧ S'.1 135 62 = 0 ∧ S'.1 135 72 = 0 ∧ mo_P B (ps_out (tk_V T n) fs) S'
/-- a read comes to its end with a fault -/
theorem mr_168b {S0 : wd_S} (ho : of_f (mo_We B) S0 S) (h : mt_e T n e S) (h0 : S.1 135 0 = 0) (he : ps_read (tk_K T n) (tk_V T n) = .error e) : ∃ x S', fn_Mo_read_168 S = some (x, S') ∧ mo_rd B T n S0 x S' := by
  have e9 : (wd_i S 135 2 0).1 135 9 = e.1 := by rw [fr_ne (by omega)]; exact h.2.1
  unfold fn_Mo_read_168
  simp only [wd_b]
  rw [e9, if_neg h.1]
  refine ⟨_, _, rfl, ?_, fr_eq, ?_⟩
  · rw [fr_ne (by omega)]; exact h0
  · rw [he]
    exact ⟨of_i (by unfold mo_We; omega) ho, rfl, h.1, by rw [fr_ne (by omega)]; exact h.2.2⟩
theorem mr_114b {S0 : wd_S} (hB : B ≤ 1) (h25 : S.1 135 25 = Int32.ofNat B) (ho : of_f (mo_We B) S0 S) (h : mt_e T n e S) (h0 : S.1 135 0 = 0) (he : ps_read (tk_K T n) (tk_V T n) = .error e) : ∃ x S', fn_Mo_read_114 S = some (x, S') ∧ mo_rd B T n S0 x S' := by
  unfold fn_Mo_read_114
  simp only [wd_b]
  generalize hS1 : wd_i S 135 31 (48 * S.1 135 25) = S1
  have o1 : of_f (fun a b => a = 135 ∧ b = 31) S S1 := by rw [← hS1]; exact of_i ⟨rfl, rfl⟩ of_refl
  have h' : mt_e T n e S1 := ⟨h.1, (o1.1 135 9 (by omega)).trans h.2.1, (o1.1 135 10 (by omega)).trans h.2.2⟩
  rw [show wd_F = 999999 + 1 from rfl, fn_Mo_read_125, if_neg (show ¬S1.1 135 9 = 0 by rw [h'.2.1]; exact h.1), ite_self]
  exact mr_168b (of_trans ho (of_mono (fun a b z => by unfold mo_We; omega) o1)) h' ((o1.1 135 0 (by omega)).trans h0) he
theorem mr_114 {S0 : wd_S} (hB : B ≤ 1) (ho : of_f (mo_We B) S0 S) (h9 : S.1 135 9 = 0) (h10 : S.1 135 10 = -1) (h0 : S.1 135 0 = 0) (hl : l ≤ 1501 * B + 1500) (hc : c ≤ 1501 * B + 1500) (hP : mn_P T n B fs c l S) (he : ps_prog (tk_K T n) (tk_V T n) = .ok fs) : ∃ x S', fn_Mo_read_114 S = some (x, S') ∧ mo_rd B T n S0 x S' := by
  obtain ⟨h25, h26, h48, h27, h28, h30, hcE, hlB, hF⟩ := hP
  obtain ⟨g1, g2, g3, g4, g5⟩ := ps_prog_gd he
  have e48 : (48 : Int32) * Int32.ofNat B = Int32.ofNat (48 * B) := by
    rw [show (48 : Int32) = Int32.ofNat 48 from rfl, ← Int32.ofNat_mul]
  unfold fn_Mo_read_114
  simp only [wd_b]
  rw [h25, e48]
  generalize hS1 : wd_i S 135 31 (Int32.ofNat (48 * B)) = S1
  have o1 : of_f (fun a b => a = 135 ∧ b = 31) S S1 := by rw [← hS1]; exact of_i ⟨rfl, rfl⟩ of_refl
  have m1 : ∀ f lo hi, mr_g f lo hi (1501 * B) l 0 16 S S1 := fun f lo hi => mr_g_o o1 (fun a x y1 y2 y3 y4 => by omega) (fun x y1 y2 => by omega) (fun x y1 y2 => by omega)
  have hF1 : ∀ i, 0 ≤ i → (hi : i < fs.length) → mn_F T n B (48 * B + i) fs[i] (1501 * B + ps_c (fs.take i)) l S1 := fun i _ hi => mn_F_o (Nat.le_refl _) (o1.2.1 _ _ (by omega)) (fun a y1 y2 => o1.1 a _ (by omega)) (m1 _ _ _) (hF i hi)
  obtain ⟨S2, f2, o2, r2⟩ := mr_125 (T := T) (n := n) (l := l) (B := B) (fs := fs) hB h48 hl (by omega) (fun o ho => by have := g2 o ho; omega) (fun q hq => ⟨(g4 q hq).1, (g4 q hq).2.1⟩) fs.length 0 wd_F S1 (Nat.zero_add _) (by rw [show wd_F = 1000000 from rfl]; omega) (by rw [o1.1 135 9 (by omega)]; exact h9) (by rw [← hS1, fr_eq]; rfl) (by rw [o1.1 135 25 (by omega)]; exact h25) (by rw [o1.1 135 26 (by omega)]; exact h26) (fun i hi => ⟨(hF1 i (Nat.zero_le _) hi).1, (hF1 i (Nat.zero_le _) hi).2.1⟩) hF1 (fun i hi => absurd hi (Nat.not_lt_zero _))
  rw [f2]
  rw [List.drop_zero] at r2
  have O2 : of_f (mo_We B) S0 S2 := of_trans ho (of_trans (of_mono (fun a b z => by unfold mo_We; omega) o1) (of_mono mo_We_u o2))
  have h02 : S2.1 135 0 = 0 := by rw [o2.1 135 0 (by unfold mu_W; omega), o1.1 135 0 (by omega)]; exact h0
  have eR : ps_read (tk_K T n) (tk_V T n) = match ps_first (tk_V T n) fs (ps_M fs) with
    | some e => .error e
    | none => .ok fs := by
    unfold ps_read
    rw [he]
    rfl
  cases hq : ps_first (tk_V T n) fs (ps_M fs) with
  | some e =>
    rw [hq] at r2 eR
    exact mr_168b O2 r2 h02 eR
  | none =>
    rw [hq] at r2 eR
    obtain ⟨u1, u2, u3⟩ := r2
    have v25 : S2.1 135 25 = Int32.ofNat B := by rw [o2.1 135 25 (by unfold mu_W; omega), o1.1 135 25 (by omega)]; exact h25
    have v26 : S2.1 135 26 = Int32.ofNat fs.length := by rw [o2.1 135 26 (by unfold mu_W; omega), o1.1 135 26 (by omega)]; exact h26
    have v10 : S2.1 135 10 = -1 := by rw [u2, o1.1 135 10 (by omega)]; exact h10
    unfold fn_Mo_read_168
    simp only [wd_b]
    rw [show (wd_i S2 135 2 0).1 135 9 = 0 by rw [fr_ne (by omega)]; exact u1, if_pos rfl, show (wd_i S2 135 2 0).1 135 25 = Int32.ofNat B by rw [fr_ne (by omega)]; exact v25]
    generalize hS3 : wd_i (wd_i S2 135 2 0) 135 42 (Int32.ofNat B) = S3
    have v42 : S3.1 135 42 = Int32.ofNat B := by rw [← hS3, fr_eq]
    have w26 : S3.1 135 26 = Int32.ofNat fs.length := by rw [← hS3, fr_ne (by omega), fr_ne (by omega)]; exact v26
    rw [v42, if_neg (ms_in (show B < 2 by omega) (by decide)), im_t (show B < 2147483648 by omega), w26]
    have o3 : of_f (mo_W B) S0 S3 := by
      rw [← hS3]
      exact of_i (by unfold mo_W; omega) (of_i (by unfold mo_W mo_We; omega) (of_mono (fun a b z => Or.inl z) O2))
    generalize hS4 : wd_i (wd_i (wd_i (wd_i (wd_i (wd_i (wd_i S3 150 B (Int32.ofNat fs.length)) 135 41 1) 135 59 0) 135 60 0) 135 61 0) 135 62 0) 135 72 0 = S4
    have o4 : of_f (fun a b => (a = 135 ∧ (b = 41 ∨ b = 59 ∨ b = 60 ∨ b = 61 ∨ b = 62 ∨ b = 72)) ∨ (a = 150 ∧ b = B)) S3 S4 := by
      rw [← hS4]
      exact of_i (by omega) (of_i (by omega) (of_i (by omega) (of_i (by omega) (of_i (by omega) (of_i (by omega) (of_i (by omega) of_refl))))))
    have x26 : S4.1 135 26 = Int32.ofNat fs.length := by rw [o4.1 135 26 (by omega)]; exact w26
    rw [x26]
    refine ⟨_, S4, rfl, ?_, ?_, ?_⟩
    · rw [o4.1 135 0 (by omega), ← hS3, fr_ne (by omega), fr_ne (by omega)]; exact h02
    · rw [o4.1 135 2 (by omega), ← hS3, fr_ne (by omega), fr_eq]
    · rw [eR]
      have o34 : of_f (fun a b => (a = 135 ∧ (b = 2 ∨ b = 41 ∨ b = 42 ∨ b = 59 ∨ b = 60 ∨ b = 61 ∨ b = 62 ∨ b = 72)) ∨ (a = 150 ∧ b = B)) S2 S4 := of_trans (by rw [← hS3]; exact of_i (by omega) (of_i (by omega) of_refl)) (of_mono (fun a b z => by omega) o4)
      refine ⟨of_trans o3 (of_mono (fun a b z => by unfold mo_W; omega) o4), rfl, ?_, ?_, ?_, ?_, ?_, ?_, ?_, ?_, ?_, fun j hj => ?_⟩
      · rw [o34.1 135 10 (by omega)]; exact v10
      · rw [o4.1 135 42 (by omega)]; exact v42
      · rw [← hS4, fr_ne (by omega), fr_ne (by omega), fr_ne (by omega), fr_ne (by omega), fr_ne (by omega), fr_eq]
      · rw [← hS4, fr_ne (by omega), fr_ne (by omega), fr_ne (by omega), fr_ne (by omega), fr_ne (by omega), fr_ne (by omega), fr_eq]
      · rw [← hS4, fr_ne (by omega), fr_ne (by omega), fr_ne (by omega), fr_ne (by omega), fr_eq]
      · rw [← hS4, fr_ne (by omega), fr_ne (by omega), fr_ne (by omega), fr_eq]
      · rw [← hS4, fr_ne (by omega), fr_ne (by omega), fr_eq]
      · rw [← hS4, fr_ne (by omega), fr_eq]
      · rw [← hS4, fr_eq]
      · have hj' : j < fs.length := by rw [ps_out_l] at hj; exact hj
        rw [ps_out_g hj hj']
        have cf := ps_c_f fs (j + 1)
        refine mo_F_o (fun a y1 y2 => o34.1 a _ (by omega)) (mj_g_o o34 (fun a x _ _ _ _ => by omega) (fun x _ _ => by omega)) (by omega) (by omega) (u3 j hj')
theorem mo_read {h : Nat} (h8 : n ≤ 8000) (hT : S.1 136 = T) (hn : S.1 135 2 = Int32.ofNat n) (hh : h ≤ 1) (h42 : S.1 135 42 = Int32.ofNat h) (hB : B = if S.1 135 41 = 0 then h else 1 - h) : ∃ x S', fn_Mo_read S = some (x, S') ∧ mo_rd B T n S x S' := by
  have hB1 : B ≤ 1 := by
    rw [hB]
    split <;> omega
  have e0 : fn_Mo_read S = fn_Mo_read_26 (Int32.ofNat B) (wd_i S 135 0 0) := by
    unfold fn_Mo_read
    simp only [wd_b]
    rw [fr_ne (show ¬(135 = 135 ∧ 41 = 0) by omega), fr_ne (show ¬(135 = 135 ∧ 42 = 0) by omega), h42, hB]
    by_cases c : S.1 135 41 = 0
    · rw [if_pos c, if_pos c]
    · rw [if_neg c, if_neg c]
      have e1 : (1 : Int32) - Int32.ofNat h = Int32.ofNat (1 - h) := by
        rcases (show h = 0 ∨ h = 1 by omega) with z | z <;> rw [z] <;> rfl
      rw [e1]
  have e15 : (1501 : Int32) * Int32.ofNat B = Int32.ofNat (1501 * B) := by
    rw [show (1501 : Int32) = Int32.ofNat 1501 from rfl, ← Int32.ofNat_mul]
  rw [e0]
  unfold fn_Mo_read_26
  simp only [wd_b]
  have r25 : (wd_i (wd_i (wd_i S 135 0 0) 135 25 (Int32.ofNat B)) 135 26 0).1 135 25 = Int32.ofNat B := by rw [fr_ne (by omega), fr_eq]
  have r25' : ∀ v, (wd_i (wd_i (wd_i (wd_i S 135 0 0) 135 25 (Int32.ofNat B)) 135 26 0) 135 27 v).1 135 25 = Int32.ofNat B := fun v => by rw [fr_ne (by omega)]; exact r25
  rw [r25, r25', e15]
  generalize hS1 : wd_i (wd_i (wd_i (wd_i (wd_i (wd_i (wd_i (wd_i (wd_i (wd_i S 135 0 0) 135 25 (Int32.ofNat B)) 135 26 0) 135 27 (Int32.ofNat (1501 * B))) 135 28 (Int32.ofNat (1501 * B))) 135 30 0) 135 3 0) 135 6 0) 135 9 0) 135 10 (-1) = S1
  have o1 : of_f (fun a b => a = 135 ∧ (b = 0 ∨ b = 25 ∨ b = 26 ∨ b = 27 ∨ b = 28 ∨ b = 30 ∨ b = 3 ∨ b = 6 ∨ b = 9 ∨ b = 10)) S S1 := by
    rw [← hS1]
    exact of_i (by omega) (of_i (by omega) (of_i (by omega) (of_i (by omega) (of_i (by omega) (of_i (by omega) (of_i (by omega) (of_i (by omega) (of_i (by omega) (of_i (by omega) of_refl)))))))))
  have O1 : of_f (mo_We B) S S1 := of_mono (fun a b z => by unfold mo_We; omega) o1
  have v10 : S1.1 135 10 = -1 := by rw [← hS1, fr_eq]
  have v9 : S1.1 135 9 = 0 := by rw [← hS1, fr_ne (by omega), fr_eq]
  have v6 : S1.1 135 6 = 0 := by rw [← hS1, fr_ne (by omega), fr_ne (by omega), fr_eq]
  have v3 : S1.1 135 3 = 0 := by rw [← hS1, fr_ne (by omega), fr_ne (by omega), fr_ne (by omega), fr_eq]
  have v30 : S1.1 135 30 = 0 := by rw [← hS1, fr_ne (by omega), fr_ne (by omega), fr_ne (by omega), fr_ne (by omega), fr_eq]
  have v28 : S1.1 135 28 = Int32.ofNat (1501 * B) := by rw [← hS1, fr_ne (by omega), fr_ne (by omega), fr_ne (by omega), fr_ne (by omega), fr_ne (by omega), fr_eq]
  have v27 : S1.1 135 27 = Int32.ofNat (1501 * B) := by rw [← hS1, fr_ne (by omega), fr_ne (by omega), fr_ne (by omega), fr_ne (by omega), fr_ne (by omega), fr_ne (by omega), fr_eq]
  have v26 : S1.1 135 26 = 0 := by rw [← hS1, fr_ne (by omega), fr_ne (by omega), fr_ne (by omega), fr_ne (by omega), fr_ne (by omega), fr_ne (by omega), fr_ne (by omega), fr_eq]
  have v25 : S1.1 135 25 = Int32.ofNat B := by rw [← hS1, fr_ne (by omega), fr_ne (by omega), fr_ne (by omega), fr_ne (by omega), fr_ne (by omega), fr_ne (by omega), fr_ne (by omega), fr_ne (by omega), fr_eq]
  have v0 : S1.1 135 0 = 0 := by rw [← hS1, fr_ne (by omega), fr_ne (by omega), fr_ne (by omega), fr_ne (by omega), fr_ne (by omega), fr_ne (by omega), fr_ne (by omega), fr_ne (by omega), fr_ne (by omega), fr_eq]
  clear hS1 r25 r25'
  have vT : S1.1 136 = T := by
    funext m
    rw [o1.1 136 m (by omega), hT]
  obtain ⟨S2, f2, o2, q19, qg⟩ := mt_first h8 vT (by rw [o1.1 135 2 (by omega)]; exact hn) v3 v6 v9 v10
  rw [f2, wd_d_s]
  have O2 : of_f (mo_We B) S S2 := of_trans O1 (of_mono (fun a b z => by unfold nx_W at z; unfold mo_We; omega) o2)
  have n135 : ∀ b, b < 2 ∨ 10 < b → S2.1 135 b = S1.1 135 b := fun b hb => o2.1 135 b (by unfold nx_W; omega)
  by_cases h19 : tk_K T n 0 = 19
  · have r := q19 h19
    have h9 : ¬S2.1 135 9 = 0 := by rw [r.2.1]; exact r.1
    rw [mo_def_b h9, wd_d_s, show wd_F = 999999 + 1 from rfl, mr_91b h9]
    refine mr_114b hB1 ((n135 25 (by omega)).trans v25) O2 r ((n135 0 (by omega)).trans v0) ?_
    unfold ps_read ps_prog
    rw [if_pos h19]
    rfl
  · have g2 := qg h19
    have P2 : mn_P T n B [] (1501 * B) (1501 * B) S2 := ⟨(n135 25 (by omega)).trans v25, (n135 26 (by omega)).trans v26, (show 0 ≤ 48 by decide), (n135 27 (by omega)).trans v27, (n135 28 (by omega)).trans v28, (n135 30 (by omega)).trans v30, rfl, Nat.le_refl _, fun j hj => absurd hj (Nat.not_lt_zero _)⟩
    obtain ⟨S3, f3, o3, r3⟩ := mn_def h8 hB1 g2 P2 (by omega) (by omega)
    have r3 : (match ps_fun (tk_K T n) (tk_V T n) [] 0 with
      | .error e => mt_e T n e S3
      | .ok q => mt_g T n q.2 S3 ∧ ∃ l', l' ≤ 1501 * B + q.2 ∧ mn_P T n B ([] ++ [q.1]) (1501 * B + q.1.2.2.2.2.1) l' S3) := r3
    rw [f3, wd_d_s]
    have O3 : of_f (mo_We B) S S3 := of_trans O2 (of_mono mo_We_n o3)
    have m0 : ∀ S4, of_f (mn_W B) S3 S4 → S4.1 135 0 = 0 := fun S4 o4 => by
      rw [o4.1 135 0 (by unfold mn_W; omega), o3.1 135 0 (by unfold mn_W; omega), n135 0 (by omega)]; exact v0
    have m25 : ∀ S4, of_f (mn_W B) S3 S4 → S4.1 135 25 = Int32.ofNat B := fun S4 o4 => by
      rw [o4.1 135 25 (by unfold mn_W; omega), o3.1 135 25 (by unfold mn_W; omega), n135 25 (by omega)]; exact v25
    have eR : ps_read (tk_K T n) (tk_V T n) = ps_b (ps_prog (tk_K T n) (tk_V T n)) fun fs => match ps_first (tk_V T n) fs (ps_M fs) with
      | some e => .error e
      | none => .ok fs := rfl
    have eP : ps_prog (tk_K T n) (tk_V T n) = ps_b (ps_fun (tk_K T n) (tk_V T n) [] 0) fun q => ps_funs (tk_K T n) (tk_V T n) 1500 [q.1] q.2 := by
      unfold ps_prog
      rw [if_neg h19]
    cases q1 : ps_fun (tk_K T n) (tk_V T n) [] 0 with
    | error e =>
      rw [q1] at r3 eP
      have h9 : ¬S3.1 135 9 = 0 := by rw [r3.2.1]; exact r3.1
      rw [show wd_F = 999999 + 1 from rfl, mr_91b h9]
      exact mr_114b hB1 (m25 S3 of_refl) O3 r3 (m0 S3 of_refl) (by rw [eR, eP]; rfl)
    | ok q =>
      rw [q1] at r3 eP
      obtain ⟨g3, l', hl', P3⟩ := r3
      obtain ⟨⟨w1, w2, w3, w4, w5, w6, w7, w8, w9, w10, w11⟩, -⟩ := ps_fun_ok q1
      obtain ⟨S4, f4, o4, r4⟩ := mr_91 h8 hB1 1500 wd_F q.2 (1501 * B + q.1.2.2.2.2.1) l' [q.1] S3 (by rw [show wd_F = 1000000 from rfl]; omega) (by omega) g3 P3 (by omega) hl'
      rw [f4]
      have O4 : of_f (mo_We B) S S4 := of_trans O3 (of_mono mo_We_n o4)
      have eP : ps_prog (tk_K T n) (tk_V T n) = ps_funs (tk_K T n) (tk_V T n) 1500 [q.1] q.2 := eP
      cases q2 : ps_funs (tk_K T n) (tk_V T n) 1500 [q.1] q.2 with
      | error e =>
        rw [q2] at r4 eP
        exact mr_114b hB1 (m25 S4 o4) O4 r4 (m0 S4 o4) (by rw [eR, eP]; rfl)
      | ok fs =>
        rw [q2] at r4 eP
        obtain ⟨x9, x10, c', l2, hc', hl2, P4⟩ := r4
        exact mr_114 hB1 O4 x9 x10 (m0 S4 o4) hl2 hc' P4 eP
end Mrd2
