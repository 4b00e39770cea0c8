/-! read() of the class, whole. -/
def of_r (W R : Nat → Nat → Prop) (S S' : wd_S) : Prop := (∀ a k, ¬W a k → S'.1 a k = S.1 a k) ∧ (∀ a k, ¬W a k → S'.2.1 a k = S.2.1 a k) ∧ (∀ a k, ¬R a k → S'.2.2.1 a k = S.2.2.1 a k) ∧ S'.2.2.2 = S.2.2.2
section OfR
variable {W W' R R' : Nat → Nat → Prop} {S S1 S2 : wd_S}
theorem ofr_refl : of_r W R S S := ⟨fun _ _ _ => rfl, fun _ _ _ => rfl, fun _ _ _ => rfl, rfl⟩
theorem ofr_trans (h1 : of_r W R S S1) (h2 : of_r W R S1 S2) : of_r W R S S2 := ⟨fun a k h => (h2.1 a k h).trans (h1.1 a k h), fun a k h => (h2.2.1 a k h).trans (h1.2.1 a k h), fun a k h => (h2.2.2.1 a k h).trans (h1.2.2.1 a k h), h2.2.2.2.trans h1.2.2.2⟩
theorem ofr_of (hw : ∀ a k, W' a k → W a k) (h : of_f W' S S1) : of_r W R S S1 := ⟨fun a k q => h.1 a k (fun z => q (hw a k z)), fun a k q => h.2.1 a k (fun z => q (hw a k z)), fun a k _ => by rw [h.2.2], by rw [h.2.2]⟩
theorem ofr_i {a k : Nat} {v : Int32} (hw : W a k) (h : of_r W R S S1) : of_r W R S (wd_i S1 a k v) := by
  refine ⟨fun b m q => ?_, h.2.1, h.2.2.1, h.2.2.2⟩
  rw [fr_i1, if_neg (fun z => q (by rw [z.1, z.2]; exact hw))]
  exact h.1 b m q
theorem ofr_r {a k r : Nat} (hr : R a k) (h : of_r W R S S1) : of_r W R S (wd_r S1 a k r) := by
  refine ⟨h.1, h.2.1, fun b m q => ?_, h.2.2.2⟩
  rw [fr_r1, if_neg (fun z => q (by rw [z.1, z.2]; exact hr))]
  exact h.2.2.1 b m q
end OfR
theorem ps_first_lt {V : Nat → Int64} {fs : List ps_F} {e : ps_E} : ∀ M : List (Nat × Nat), (∀ o, o ∈ M → o.1 < 1500) → ps_first V fs M = some e → ¬e.1 = 0 ∧ e.2 ≤ 1500 := by
  intro M
  induction M with
  | nil => intro _ h; cases h
  | cons q r ih =>
    intro h1 h
    have hq := h1 q List.mem_cons_self
    unfold ps_first at h
    cases hb : ps_bad V fs q with
    | none =>
      rw [hb] at h
      exact ih (fun o ho => h1 o (List.mem_cons_of_mem _ ho)) h
    | some e' =>
      rw [hb] at h
      cases h
      unfold ps_bad at hb
      split at hb
      · cases hb
        exact ⟨(show ¬(4 : Int32) = 0 by decide), Nat.le_of_lt hq⟩
      · split at hb
        · cases hb
          exact ⟨(show ¬(4 : Int32) = 0 by decide), Nat.le_of_lt hq⟩
        · split at hb
          · cases hb
          · cases hb
            exact ⟨(show ¬(5 : Int32) = 0 by decide), Nat.le_of_lt hq⟩
def re_W (b v a k : Nat) : Prop := (a = 1 ∧ (k = 1 ∨ k = 2)) ∨ (a = 4 ∧ (k = 4 ∨ k = 5)) ∨ a = 6 ∨ a = 8 ∨ a = 10 ∨ a = 47 ∨ a = 49 ∨ a = 51 ∨ a = 53 ∨ (b ≤ a ∧ a < b + 18) ∨ (a = v + 1 ∧ k = 3) ∨ (a = v + 2 ∧ k = 6)
def re_R (a k : Nat) : Prop := (a = 47 ∧ (k = 1 ∨ k = 2)) ∨ (a = 1 ∧ (k = 5 ∨ k = 6))
section Sr
variable {b b' v n : Nat} {S : wd_S}
set_option maxHeartbeats 2000000 in
theorem sp_read (hn : S.1 1 1 = Int32.ofNat n) (h8 : n ≤ 8000) (hbb : (b = 11 ∧ b' = 29) ∨ (b = 29 ∧ b' = 11)) (h6 : S.2.2.1 1 6 = b) (h5 : S.2.2.1 1 5 = b') (hv : v = 54 ∨ v = 79) (h7 : S.2.2.1 1 7 = v) : ∃ x S', fn_Sp_read S = some (x, S') ∧ of_r (re_W b v) re_R S S' ∧ S'.1 1 1 = 0 ∧ match ps_read (tk_K (S.1 3) n) (tk_V (S.1 3) n) with
    | .error e => x = -e.1 ∧ (¬e.1 = 0 ∧ e.2 ≤ 1500) ∧ S'.1 1 2 = Int32.ofNat (tk_p (S.1 3) n e.2) ∧ S'.2.2.1 1 5 = b' ∧ S'.2.2.1 1 6 = b ∧ S'.1 (v + 1) 3 = S.1 (v + 1) 3
    | .ok fs => x = Int32.ofNat fs.length ∧ S'.1 1 2 = -1 ∧ S'.2.2.1 1 5 = b ∧ S'.2.2.1 1 6 = b' ∧ cl_P b 1500 (ps_out (tk_V (S.1 3) n) fs) S' ∧ S'.1 (v + 1) 3 = 0 := by
  have hb : b = 11 ∨ b = 29 := by omega
  have t1 : tp_t b = (0, 0) := by rcases hb with h | h <;> rw [h] <;> rfl
  have t1' : tp_t b' = (0, 0) := by rcases hbb with h | h <;> rw [h.2] <;> rfl
  have t9 : tp_t v = (0, 9) := by rcases hv with h | h <;> rw [h] <;> rfl
  generalize hT : S.1 3 = T
  obtain ⟨S1, e1, o1, k1⟩ := sc_scan (S := S) h8
  rw [hT] at k1
  unfold fn_Sp_read
  simp only [wd_b]
  rw [hn, e1, wd_d_s]
  have r1 : S1.2.2 = S.2.2 := o1.2.2
  generalize hS4 : wd_i S1 1 1 0 = S4
  have r4 : S4.2.2 = S.2.2 := by rw [← hS4]; exact r1
  have a4 : ∀ a, a ≠ 1 → S4.1 a = S1.1 a := fun a ha => by rw [← hS4, fr_row _ ha]
  have k4 : tk_ok T n S4 := fun i hi => by
    have := k1 i hi
    rw [a4 4 (by decide), fr_at 5 _ (a4 6 (by decide)), fr_at 7 _ (a4 8 (by decide)), fr_lat (S := S1) (S' := S4) 9 _ (by rw [← hS4]; rfl)]
    exact this
  have o4 : of_r (re_W b v) re_R S S4 := by
    rw [← hS4]
    exact ofr_i (by unfold re_W; omega) (ofr_of (fun a k h => by unfold sc_W at h; unfold re_W; omega) o1)
  rw [show S4.2.2.1 1 6 = b by rw [r4]; exact h6, if_pos t1]
  obtain ⟨S5, e5, D5⟩ := rd_take (K := tk_K T n) (V := tk_V T n) (S := S4) hb (fun i hi => (k4 i hi).1) (fun i hi hk => (k4 i hi).2.2 (by
    unfold tk_K at hk
    split at hk
    · next h => exact h
    · rcases hk with h | h <;> exact absurd h (by decide)))
  obtain ⟨o5, D5⟩ := D5
  have os : of_r (re_W b v) re_R S4 (rd_s b (tk_K T n 0) S4) := by
    unfold rd_s
    exact ofr_i (by unfold re_W; omega) (ofr_i (by unfold re_W; omega) (ofr_i (by unfold re_W; omega) (ofr_i (by unfold re_W; omega) (ofr_i (by unfold re_W; omega) (ofr_i (by unfold re_W; omega) (ofr_r (by unfold re_R; omega) (ofr_r (by unfold re_R; omega) ofr_refl)))))))
  have eX : rd_X (tk_K T n) (tk_V T n) b (rd_s b (tk_K T n 0) S4) := by
    refine ⟨hb, ?_, ?_, fun i hi => ?_, fun i hi hk => ?_⟩
    · show (wd_r (wd_r S4 47 1 b) 47 2 (b + 1)).2.2.1 47 1 = b
      rw [fr_r1, if_neg (by omega), fr_r1, if_pos ⟨rfl, rfl⟩]
    · show (wd_r (wd_r S4 47 1 b) 47 2 (b + 1)).2.2.1 47 2 = b + 1
      rw [fr_r1, if_pos ⟨rfl, rfl⟩]
    · have hA : ∀ a, a ≠ 47 → a ≠ b → a ≠ b + 1 → (rd_s b (tk_K T n 0) S4).1 a = S4.1 a := fun a y1 y2 y3 => by
        unfold rd_s
        rw [fr_row _ y1, fr_row _ y1, fr_row _ y1, fr_row _ y1, fr_row _ y2, fr_row _ y3, fr_r2, fr_r2]
      rw [hA 4 (by omega) (by omega) (by omega), fr_at 5 _ (hA 6 (by omega) (by omega) (by omega))]
      exact (k4 i hi).1
    · rw [fr_lat (S := S4) (S' := rd_s b (tk_K T n 0) S4) 9 _ rfl]
      exact (k4 i hi).2.2 (by
        unfold tk_K at hk
        split at hk
        · next h => exact h
        · rcases hk with h | h <;> exact absurd h (by decide))
  have oS : ∀ S', of_f (rf_W b) (rd_s b (tk_K T n 0) S4) S' → of_r (re_W b v) re_R S S' := fun S' h => ofr_trans o4 (ofr_trans os (ofr_of (fun a k q => by unfold rf_W at q; unfold re_W; omega) h))
  -- the end, with a fault and without
  have hstart : ∀ S' e2, of_f (rf_W b) (rd_s b (tk_K T n 0) S4) S' → e2 ≤ 1500 → (if Int32.ofNat e2 < S'.1 4 5 then ro_at 7 (Int32.ofNat e2) S' else S'.1 4 4) = Int32.ofNat (tk_p T n e2) := by
    intro S' e2 h he
    have hA : ∀ a, a = 4 ∨ a = 8 → S'.1 a = S4.1 a := fun a ha => by
      funext m
      rw [h.1 a m (by unfold rf_W; omega)]
      unfold rd_s
      rw [fr_ne (by omega), fr_ne (by omega), fr_ne (by omega), fr_ne (by omega), fr_ne (by omega), fr_ne (by omega), fr_r2, fr_r2]
    rw [hA 4 (by omega), fr_at 7 _ (hA 8 (by omega))]
    exact (k4 e2 he).2.1
  have hbad : ∀ (e : ps_E) (S' : wd_S), of_f (rf_W b) (rd_s b (tk_K T n 0) S4) S' → (¬e.1 = 0 ∧ e.2 ≤ 1500) → S'.1 47 5 = e.1 → S'.1 47 6 = Int32.ofNat e.2 → ∀ f : Int32 → wd_S → Option (Int32 × wd_S), (∀ x S9, f x S9 = if (e.1 : Int32) = 0 then f x S9 else some (-e.1, wd_i S9 1 2 x)) → ∃ x S'', wd_c (fn_Reader_faultPlace S') f = some (x, S'') ∧ of_r (re_W b v) re_R S S'' ∧ S''.1 1 1 = 0 ∧ (x = -e.1 ∧ (¬e.1 = 0 ∧ e.2 ≤ 1500) ∧ S''.1 1 2 = Int32.ofNat (tk_p T n e.2) ∧ S''.2.2.1 1 5 = b' ∧ S''.2.2.1 1 6 = b ∧ S''.1 (v + 1) 3 = S.1 (v + 1) 3) := by
    intro e S' h he h1 h2 f hf
    unfold fn_Reader_faultPlace fn_Reader_faultPlace_22
    rw [if_neg (by rw [h1]; exact he.1), fo_start, wd_c_s, wd_c_s, h2, hstart S' e.2 h he.2, hf, if_neg he.1]
    have oo := oS S' h
    have rr : S'.2.2.1 1 5 = b' ∧ S'.2.2.1 1 6 = b := by
      rw [h.2.2]
      show (wd_r (wd_r S4 47 1 b) 47 2 (b + 1)).2.2.1 1 5 = b' ∧ (wd_r (wd_r S4 47 1 b) 47 2 (b + 1)).2.2.1 1 6 = b
      rw [fr_r1, if_neg (by omega), fr_r1, if_neg (by omega), fr_r1, if_neg (by omega), fr_r1, if_neg (by omega), r4]
      exact ⟨h5, h6⟩
    refine ⟨_, _, rfl, ofr_i (by unfold re_W; omega) oo, ?_, rfl, he, fr_eq, rr.1, rr.2, ?_⟩
    · rw [fr_ne (by omega), h.1 1 1 (by unfold rf_W; omega)]
      unfold rd_s
      rw [fr_ne (by omega), fr_ne (by omega), fr_ne (by omega), fr_ne (by omega), fr_ne (by omega), fr_ne (by omega), fr_r2, fr_r2, ← hS4, fr_eq]
    · rw [fr_ne (by omega), h.1 (v + 1) 3 (by unfold rf_W; omega)]
      unfold rd_s
      rw [fr_ne (by omega), fr_ne (by omega), fr_ne (by omega), fr_ne (by omega), fr_ne (by omega), fr_ne (by omega), fr_r2, fr_r2, ← hS4, fr_ne (by omega), o1.1 (v + 1) 3 (by unfold sc_W; omega)]
  rw [e5]
  unfold ps_read
  cases q1 : ps_prog (tk_K T n) (tk_V T n) with
  | error e =>
    rw [q1] at D5
    obtain ⟨d1, d2, d3⟩ := D5
    unfold fn_Reader_take_79 fn_Reader_take_90
    rw [if_neg (by rw [d2]; exact d1.1), wd_c_s, d2]
    exact hbad e S5 o5 d1 d2 d3 _ (fun x S9 => by rw [if_neg d1.1, if_neg d1.1])
  | ok fs =>
    rw [q1] at D5
    obtain ⟨d1, d2, c, hc, hP⟩ := D5
    have hgd := ps_prog_gd q1
    obtain ⟨x, S6, e6, o6, D6⟩ := ld_all (rd_X_o eX o5) hgd d1 d2 hc hP
    rw [e6, wd_c_s]
    show ∃ x S', _ ∧ _ ∧ _ ∧ (match (match ps_first (tk_V T n) fs (ps_M fs) with
      | some e => .error e
      | none => .ok fs : Except ps_E (List ps_F)) with
      | .error e => _
      | .ok fs => _)
    cases q2 : ps_first (tk_V T n) fs (ps_M fs) with
    | some e =>
      rw [q2] at D6
      obtain ⟨d3, rfl, d4, d5⟩ := D6
      exact hbad e S6 (of_trans o5 o6) (ps_first_lt _ hgd.2.1 q2) d4 d5 _ (fun x S9 => by rw [if_neg d3, if_neg d3])
    | none =>
      rw [q2] at D6
      obtain ⟨rfl, d4, d5⟩ := D6
      have O6 := of_trans o5 o6
      unfold fn_Reader_faultPlace fn_Reader_faultPlace_22
      rw [if_pos d4, wd_c_s, if_pos rfl]
      have rr : S6.2.2.1 1 5 = b' ∧ S6.2.2.1 1 6 = b ∧ S6.2.2.1 1 7 = v := by
        rw [O6.2.2]
        show (wd_r (wd_r S4 47 1 b) 47 2 (b + 1)).2.2.1 1 5 = b' ∧ (wd_r (wd_r S4 47 1 b) 47 2 (b + 1)).2.2.1 1 6 = b ∧ (wd_r (wd_r S4 47 1 b) 47 2 (b + 1)).2.2.1 1 7 = v
        rw [fr_r1, if_neg (by omega), fr_r1, if_neg (by omega), fr_r1, if_neg (by omega), fr_r1, if_neg (by omega), fr_r1, if_neg (by omega), fr_r1, if_neg (by omega), r4]
        exact ⟨h5, h6, h7⟩
      have rr5 : (wd_i S6 1 2 (-1)).2.2.1 1 5 = b' := rr.1
      have rr6 : (wd_i S6 1 2 (-1)).2.2.1 1 6 = b := rr.2.1
      have rr7 : (wd_r (wd_r (wd_i S6 1 2 (-1)) 1 5 b) 1 6 b').2.2.1 1 7 = v := by
        rw [fr_r1, if_neg (by omega), fr_r1, if_neg (by omega)]
        exact rr.2.2
      rw [rr5, rr6, if_pos t1', if_pos t1, rr7, if_pos t9]
      unfold fn_Versions_clear fn_Bodies_clear fn_Trees_clear
      simp only [wd_b, wd_d_s]
      generalize hS7 : wd_i (wd_i (wd_r (wd_r (wd_i S6 1 2 (-1)) 1 5 b) 1 6 b') (v + 1 + 1) 6 0) (v + 1) 3 0 = S7
      have rr8 : S7.2.2.1 1 5 = b := by
        rw [← hS7]
        show (wd_r (wd_r (wd_i S6 1 2 (-1)) 1 5 b) 1 6 b').2.2.1 1 5 = b
        rw [fr_r1, if_neg (by omega), fr_r1, if_pos ⟨rfl, rfl⟩]
      have rr9 : S7.2.2.1 1 6 = b' := by
        rw [← hS7]
        show (wd_r (wd_r (wd_i S6 1 2 (-1)) 1 5 b) 1 6 b').2.2.1 1 6 = b'
        rw [fr_r1, if_pos ⟨rfl, rfl⟩]
      have a7 : ∀ a, a ≠ 1 → a ≠ v + 1 → a ≠ v + 2 → S7.1 a = S6.1 a := fun a y1 y2 y3 => by
        rw [← hS7, fr_row _ y2, fr_row _ (by omega), fr_r2, fr_r2, fr_row _ y1]
      unfold fn_Bodies_count
      rw [rr8, if_pos t1, wd_c_s, a7 b (by omega) (by omega) (by omega), d5.1, ps_out_l]
      refine ⟨_, _, rfl, ?_, ?_, rfl, ?_, rr8, rr9, ⟨?_, fun j hj => ?_⟩, ?_⟩
      · rw [← hS7]
        exact ofr_i (by unfold re_W; omega) (ofr_i (by unfold re_W; omega) (ofr_r (by unfold re_R; omega) (ofr_r (by unfold re_R; omega) (ofr_i (by unfold re_W; omega) (oS S6 O6)))))
      · rw [← hS7, fr_ne (by omega), fr_ne (by omega), fr_r2, fr_r2, fr_ne (by omega), O6.1 1 1 (by unfold rf_W; omega)]
        unfold rd_s
        rw [fr_ne (by omega), fr_ne (by omega), fr_ne (by omega), fr_ne (by omega), fr_ne (by omega), fr_ne (by omega), fr_r2, fr_r2, ← hS4, fr_eq]
      · rw [← hS7, fr_ne (by omega), fr_ne (by omega), fr_r2, fr_r2, fr_eq]
      · rw [a7 b (by omega) (by omega) (by omega)]
        exact d5.1
      · obtain ⟨j1, y, j2, j3, j4, j5⟩ := d5.2 j hj
        rw [a7 (b + 17) (by omega) (by omega) (by omega), a7 (b + 15) (by omega) (by omega) (by omega), a7 (b + 1 + 10) (by omega) (by omega) (by omega), a7 (b + 1 + 12) (by omega) (by omega) (by omega)]
        exact ⟨j1, y, j2, nd_t_g (nd_rows (fun a y1 y2 => a7 a (by omega) (by omega) (by omega))) _ _ _ j3, j4, j5⟩
      · rw [← hS7, fr_eq]
end Sr
