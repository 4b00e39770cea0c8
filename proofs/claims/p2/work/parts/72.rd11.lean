/-! The class's reader takes a whole program, up to what is to be looked up. -/
section Rd11
variable {K : Nat → Int32} {V : Nat → Int64} {b : Nat} {S0 : wd_S} {i m : Nat} {sc : List (Int64 × Nat)} {ms : Int32} {S S' S1 : wd_S} {e : ps_E} {s : Nat} {k : Int32} {n c d : Nat} {fs : List ps_F} {g G : Nat}
def ps_M (fs : List ps_F) : List (Nat × Nat) := fs.flatMap (fun q => q.2.2.2.1)
/-- a program, and a fault, once all is taken -/
def rd_D (b : Nat) (S : wd_S) (r : Except ps_E (List ps_F)) (S' : wd_S) : Prop := of_f (rf_W b) S S' ∧ match r with
  | .error e => (¬e.1 = 0 ∧ e.2 ≤ 1500) ∧ S'.1 47 5 = e.1 ∧ S'.1 47 6 = Int32.ofNat e.2
  | .ok fs => S'.1 47 5 = 0 ∧ S'.1 47 12 = rd_ms (-1) (ps_M fs) ∧ ∃ c, c ≤ 1500 ∧ rd_P b fs c S'
theorem rd_53_20 {F : Nat} {l : Int32} (h : S.1 47 4 = 20) : fn_Reader_take_53 (F + 1) l S = fn_Reader_take_79 S := by
  rw [fn_Reader_take_53, if_pos h, ite_self]
theorem rd_bd_20 (h : rd_bd b S0 e s S) (h4 : S.1 47 4 = 20) : (¬e.1 = 0 ∧ e.2 ≤ 1500) ∧ S.1 47 5 = e.1 ∧ S.1 47 6 = Int32.ofNat e.2 := by
  obtain ⟨-, -, a3, a4⟩ := h
  rcases a4 with ⟨c1, c2, -⟩ | ⟨-, c2, -⟩
  · exact ⟨a3, c1, c2⟩
  · rw [h4] at c2
    exact absurd c2 (by decide)
/-- from a fault on -/
theorem rd_53_b (hX : rd_X K V b S) (h : rd_fb b 60 e S) {F l : Nat} (hl : l < 1500) : ∃ S', fn_Reader_take_53 (F + 2) (Int32.ofNat l) S = fn_Reader_take_79 S' ∧ of_f (rf_W b) S S' ∧ (¬e.1 = 0 ∧ e.2 ≤ 1500) ∧ S'.1 47 5 = e.1 ∧ S'.1 47 6 = Int32.ofNat e.2 := by
  by_cases h4 : S.1 47 4 = 20
  · obtain ⟨s, g, hs, hg, h1, h2⟩ := h
    exact ⟨S, rd_53_20 h4, of_refl, rd_bd_20 h1 h4⟩
  · obtain ⟨S2, e2, o2, ⟨s, g, hs, hg, h1, h2⟩, h20⟩ := rd_fun_b hX h
    rw [fn_Reader_take_53, if_pos ((mo_lt (m := 1500) (b := 1500) (by omega) (by omega) rfl).mpr hl), if_neg h4, e2, wd_d_s, rd_53_20 h20]
    exact ⟨S2, rfl, o2, rd_bd_20 h1 h20⟩
theorem rd_funs : ∀ (f F i l c : Nat) (fs : List ps_F) (S : wd_S), l + f = 1500 → f + 1 < F → rd_X K V b S → rd_w K b S i (rd_ms (-1) (ps_M fs)) S → rd_P b fs c S → c ≤ i → 6 * l + 6 ≤ i → ∃ S', fn_Reader_take_53 F (Int32.ofNat l) S = fn_Reader_take_79 S' ∧ rd_D b S (ps_funs K V f fs i) S' := by
  intro f
  induction f with
  | zero =>
    intro F i l c fs S hl hF hX h hP hc h6
    have := h.2.1
    omega
  | succ f ih =>
    intro F i l c fs S hl hF hX h hP hc h6
    have hi := h.2.1
    obtain ⟨F, rfl⟩ : ∃ z, F = z + 1 := ⟨F - 1, by omega⟩
    unfold ps_funs
    by_cases hk : K i = 20
    · rw [if_pos hk, rd_53_20 (h.2.2.2.2.1.trans hk)]
      exact ⟨S, rfl, of_refl, h.2.2.2.2.2.1, h.2.2.2.2.2.2, c, by omega, hP⟩
    · rw [if_neg hk, fn_Reader_take_53, if_pos ((mo_lt (m := 1500) (b := 1500) (by omega) (by omega) rfl).mpr (by omega)), if_neg (by rw [h.2.2.2.2.1]; exact hk)]
      obtain ⟨S2, e2, o2, r2⟩ := rd_fun hX h hP hc
      rw [e2, wd_d_s, im_s]
      cases q1 : ps_fun K V (fs.map (fun q => q.1)) i with
      | error e =>
        rw [q1] at r2
        obtain ⟨F, rfl⟩ : ∃ z, F = z + 2 := ⟨F - 2, by omega⟩
        obtain ⟨S3, e3, o3, r3⟩ := rd_53_b (l := l + 1) (F := F) (rd_X_o hX o2) r2 (by omega)
        exact ⟨S3, e3, of_trans o2 o3, r3⟩
      | ok q =>
        rw [q1] at r2
        obtain ⟨⟨m, sc, h3⟩, hP3⟩ := r2
        obtain ⟨⟨w1, w2, w3, w4, w5, w6, w7, w8, -⟩, -⟩ := ps_fun_ok q1
        have hM : ps_M (fs ++ [q.1]) = ps_M fs ++ q.1.2.2.2.1 := by
          unfold ps_M
          rw [List.flatMap_append, List.flatMap_singleton]
        obtain ⟨S3, e3, o3, r3⟩ := ih F q.2 (l + 1) (c + q.1.2.2.2.2.1) (fs ++ [q.1]) S2 (by omega) (by omega) (rd_X_o hX o2) (by rw [hM, rd_ms_a]; exact rd_hw h3) hP3 (by omega) (by omega)
        exact ⟨S3, e3, of_trans o2 o3, r3⟩
/-- what take lays first -/
noncomputable def rd_s (b : Nat) (k : Int32) (S : wd_S) : wd_S := wd_i (wd_i (wd_i (wd_i (wd_i (wd_i (wd_r (wd_r S 47 1 b) 47 2 (b + 1)) (b + 1) 6 0) b 3 0) 47 3 0) 47 4 k) 47 5 0) 47 12 (-1)
theorem rd_take_eq (hb : b = 11 ∨ b = 29) (hk : (if Int32.ofNat 0 < S.1 4 5 then ro_at 5 (Int32.ofNat 0) S else 20) = k) : fn_Reader_take b S = wd_d (fn_Reader_takeFunction (rd_s b k S)) fun S18 => fn_Reader_take_53 wd_F 0 S18 := by
  have t1 : tp_t b = (0, 0) := by rcases hb with h | h <;> rw [h] <;> rfl
  have t2 : tp_t (b + 1) = (0, 8) := by rcases hb with h | h <;> rw [h] <;> rfl
  have r1 : ∀ S : wd_S, (wd_r (wd_r S 47 1 b) 47 2 (b + 1)).2.2.1 47 1 = b := fun S => by rw [fr_r1, if_neg (by omega), fr_r1, if_pos ⟨rfl, rfl⟩]
  unfold fn_Reader_take fn_Bodies_trees fn_Bodies_clear fn_Trees_clear rd_s
  simp only [wd_b, wd_c_s, wd_d_s]
  rw [if_pos t2, r1, if_pos t1, fo_kind, wd_c_s]
  rw [fr_ne (show ¬(4 = 47 ∧ 5 = 3) by omega), fr_ne (by omega), fr_ne (by omega), fr_r2, fr_r2]
  have e6 : ∀ v : Int32, ro_at 5 0 (wd_i (wd_i (wd_i (wd_r (wd_r S 47 1 b) 47 2 (b + 1)) (b + 1) 6 0) b 3 0) 47 3 v) = ro_at 5 0 S := fun v => fr_at 5 0 (by rw [fr_row _ (by omega), fr_row _ (by omega), fr_row _ (by omega), fr_r2, fr_r2])
  rw [e6]
  have hk : (if (0 : Int32) < S.1 4 5 then ro_at 5 0 S else 20) = k := hk
  rw [hk]
theorem rd_take (hb : b = 11 ∨ b = 29) (hK : ∀ i, i ≤ 1500 → (if Int32.ofNat i < S.1 4 5 then ro_at 5 (Int32.ofNat i) S else 20) = K i) (hV : ∀ i, i ≤ 1500 → K i = 1 ∨ K i = 2 → lo_at 9 (Int32.ofNat i) S = V i) : ∃ S', fn_Reader_take b S = fn_Reader_take_79 S' ∧ rd_D b (rd_s b (K 0) S) (ps_prog K V) S' := by
  rw [rd_take_eq hb (hK 0 (by decide))]
  have hA : ∀ a, a ≠ 47 → a ≠ b → a ≠ b + 1 → (rd_s b (K 0) S).1 a = S.1 a := fun a y1 y2 y3 => by
    unfold rd_s
    rw [fr_row _ y1, fr_row _ y1, fr_row _ y1, fr_row _ y1, fr_row _ y2, fr_row _ y3, fr_r2, fr_r2]
  have hX : rd_X K V b (rd_s b (K 0) S) := by
    refine ⟨hb, ?_, ?_, fun i hi => ?_, fun i hi hk => ?_⟩
    · show (wd_r (wd_r S 47 1 b) 47 2 (b + 1)).2.2.1 47 1 = b
      rw [fr_r1, if_neg (by omega), fr_r1, if_pos ⟨rfl, rfl⟩]
    · show (wd_r (wd_r S 47 1 b) 47 2 (b + 1)).2.2.1 47 2 = b + 1
      rw [fr_r1, if_pos ⟨rfl, rfl⟩]
    · rw [hA 4 (by omega) (by omega) (by omega), fr_at 5 _ (hA 6 (by omega) (by omega) (by omega))]
      exact hK i hi
    · rw [fr_lat (S := S) (S' := rd_s b (K 0) S) 9 _ rfl]
      exact hV i hi hk
  have e3 : (rd_s b (K 0) S).1 47 3 = Int32.ofNat 0 := by
    unfold rd_s
    rw [fr_ne (by omega), fr_ne (by omega), fr_ne (by omega), fr_eq]
    rfl
  have e4 : (rd_s b (K 0) S).1 47 4 = K 0 := by
    unfold rd_s
    rw [fr_ne (by omega), fr_ne (by omega), fr_eq]
  have e5 : (rd_s b (K 0) S).1 47 5 = 0 := by
    unfold rd_s
    rw [fr_ne (by omega), fr_eq]
  have e12 : (rd_s b (K 0) S).1 47 12 = -1 := by
    unfold rd_s
    rw [fr_eq]
  have eb : (rd_s b (K 0) S).1 b 3 = Int32.ofNat 0 := by
    unfold rd_s
    rw [fr_ne (by omega), fr_ne (by omega), fr_ne (by omega), fr_ne (by omega), fr_eq]
    rfl
  have ec : (rd_s b (K 0) S).1 (b + 1) 6 = Int32.ofNat 0 := by
    unfold rd_s
    rw [fr_ne (by omega), fr_ne (by omega), fr_ne (by omega), fr_ne (by omega), fr_ne (by omega), fr_eq]
    rfl
  generalize rd_s b (K 0) S = S1 at hX e3 e4 e5 e12 eb ec ⊢
  unfold ps_prog
  by_cases h19 : K 0 = 19
  · rw [if_pos h19]
    obtain ⟨s, hs⟩ := im_any (S1.1 47 11)
    have hbd : rd_bd b S1 (1, 0) s S1 := ⟨of_refl, hs, ⟨(show ¬(1 : Int32) = 0 by decide), (show 0 ≤ 1500 by decide)⟩, Or.inr ⟨e5, e4.trans h19, e3, rfl⟩⟩
    have h55 : ∃ S', fn_Reader_takeFunction S1 = some S' ∧ of_f (rf_W b) S1 S' ∧ (∃ s, rd_bd b S' (1, 0) s S') ∧ S'.1 47 4 = 20 := by
      have hh : ∀ l p q, ∃ S', fn_Reader_takeFunction_55 l p q S1 = some S' ∧ of_f (rf_W b) S1 S' ∧ (∃ s, rd_bd b S' (1, 0) s S') ∧ S'.1 47 4 = 20 := by
        intro l p q
        rw [rd_55_eq]
        have h3 := rd_bd_nn (p := p) (q := q) hbd
        obtain ⟨o3, hX3⟩ := rd_f4_s (l := l) (y := lo_at 9 (S1.1 47 3) S1) hX h3.1
        obtain ⟨S', e1, f1, ⟨s', g', -, -, f2, -⟩, f3⟩ := rd_f4_b (G := 61) hX3 (rd_f4_bs h3) (g := 0) (by rw [fr_ne (by omega), fr_ne (by omega), fr_q2, h3.1.1 b 3 (by unfold rd_W; omega)]; exact eb) (by omega)
        exact ⟨S', e1, of_trans o3 f1, ⟨s', f2⟩, f3⟩
      obtain ⟨w, w1, -⟩ := fo_lastOf (r := 48) (x := lo_at 9 (S1.1 47 3) S1) (S := S1) 0 wd_F (by omega) (by decide)
      have w1 : fn_LongRow_lastOf 48 (lo_at 9 (S1.1 47 3) S1) (Int32.ofNat 0) S1 = some (w, S1) := w1
      unfold fn_Reader_takeFunction fn_Reader_takeFunction_36 fn_Bodies_count
      rw [rd_r1 hX of_refl, if_pos (rd_t1 hX), wd_c_s, fo_value, wd_c_s, eb, w1, wd_c_s]
      split
      · split
        · exact hh _ _ _
        · exact hh _ _ _
      · split
        · exact hh _ _ _
        · exact hh _ _ _
    obtain ⟨S2, e2, o2, ⟨s', h2⟩, h20⟩ := h55
    rw [e2, wd_d_s, show wd_F = 999999 + 1 from rfl, rd_53_20 h20]
    exact ⟨S2, rfl, o2, rd_bd_20 h2 h20⟩
  · rw [if_neg h19]
    obtain ⟨S2, e2, o2, r2⟩ := rd_fun (fs := []) (c := 0) hX ⟨of_refl, by decide, h19, e3, e4, e5, e12⟩ ⟨eb, by decide, ec, fun j hj => absurd hj (Nat.not_lt_zero _), rfl⟩ (Nat.le_refl _)
    rw [e2, wd_d_s]
    show ∃ S', _ ∧ rd_D b S1 (ps_b (ps_fun K V [] 0) _) S'
    have r2 : (match ps_fun K V [] 0 with
      | .error e => rd_fb b 60 e S2
      | .ok q => (∃ m sc, rd_h K b S2 q.2 m sc (rd_ms (-1) q.1.2.2.2.1) S2) ∧ rd_P b ([] ++ [q.1]) (0 + q.1.2.2.2.2.1) S2) := r2
    cases q1 : ps_fun K V [] 0 with
    | error e =>
      rw [q1] at r2
      obtain ⟨S3, e3', o3, r3⟩ := rd_53_b (l := 0) (F := 999998) (rd_X_o hX o2) r2 (by decide)
      exact ⟨S3, e3', of_trans o2 o3, r3⟩
    | ok q =>
      rw [q1] at r2
      obtain ⟨⟨m, sc, h3⟩, hP3⟩ := r2
      obtain ⟨⟨w1, w2, w3, w4, w5, w6, w7, w8, -⟩, -⟩ := ps_fun_ok q1
      obtain ⟨S3, e3', o3, r3⟩ := rd_funs 1500 wd_F q.2 0 (0 + q.1.2.2.2.2.1) [q.1] S2 rfl (by decide) (rd_X_o hX o2) (by
        have : ps_M [q.1] = q.1.2.2.2.1 := List.flatMap_singleton ..
        rw [this]
        exact rd_hw h3) hP3 (by omega) (by omega)
      exact ⟨S3, e3', of_trans o2 o3, r3⟩
end Rd11
