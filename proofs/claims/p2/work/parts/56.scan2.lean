/-! The class takes the tape apart. -/
def sc_W (a k : Nat) : Prop := (a = 4 ∧ k = 5) ∨ a = 6 ∨ a = 8 ∨ a = 10
/-- c tokens are kept -/
def sc_in (T : Nat → Int32) (n : Nat) (S0 : wd_S) (c : Nat) (S : wd_S) : Prop := of_f sc_W S0 S ∧ S.1 4 5 = Int32.ofNat c ∧ c ≤ 1501 ∧ ∀ j, j < c → S.1 6 j = tk_K T n j ∧ S.1 8 j = Int32.ofNat (tk_p T n j) ∧ S.2.1 10 j = tk_V T n j
theorem sc_max {z : Nat} (h1 : 1 ≤ z) (h2 : z < 2147483648) (S : wd_S) : fn_Math_max 1 (Int32.ofNat z) S = some (Int32.ofNat z, S) := by
  unfold fn_Math_max fn_Math_max_10
  by_cases h : (1 : Int32) < Int32.ofNat z
  · rw [if_pos h]
  · rw [if_neg h]
    have e : z = 1 := by
      have := mt (im_lt (m := 1) (n := z) (by decide) h2).mpr h
      omega
    rw [e]
    rfl
theorem sc_loop {T : Nat → Int32} {n : Nat} {S0 : wd_S} (h8 : n ≤ 8000) (hT : S0.1 3 = T) (hn : S0.1 4 4 = Int32.ofNat n) : ∀ (q p c f : Nat) (S : wd_S), p + q = n → q < f → sc_in T n S0 c S → tk_n T n p = tk_p T n c → ∃ S' c', fn_Tokens_scan_12 f (Int32.ofNat p) S = some S' ∧ sc_in T n S0 c' S' ∧ (c' = 1501 ∨ tk_p T n c' = n) := by
  intro q
  induction q using Nat.strongRecOn with
  | ind q ih =>
  intro p c f S hpq hqf hin htk
  obtain ⟨f, rfl⟩ : ∃ g, f = g + 1 := ⟨f - 1, by omega⟩
  obtain ⟨ho, hc, hle, hrow⟩ := hin
  have eT : S.1 3 = T := by
    funext m
    rw [ho.1 3 m (by unfold sc_W; omega), hT]
  have en : S.1 4 4 = Int32.ofNat n := by rw [ho.1 4 4 (by unfold sc_W; omega), hn]
  rw [fn_Tokens_scan_12, en]
  by_cases hpn : p < n
  · rw [if_pos ((im_lt (by omega) (by omega)).mpr hpn), hc]
    by_cases hcl : c < 1501
    · rw [if_pos ((mo_lt (m := 1501) (b := 1501) (by omega) (by omega) rfl).mpr hcl), ro_put_ok, wd_d_s, ro_pn (L := 1501) rfl hcl]
      have eT1 : (wd_i S 8 c (Int32.ofNat p)).1 3 = T := by
        rw [fr_row S (by decide)]
        exact eT
      have en1 : (wd_i S 8 c (Int32.ofNat p)).1 4 4 = Int32.ofNat n := by rw [fr_ne (by omega)]; exact en
      rw [sc_one en1 hpn h8, eT1]
      by_cases hb : T p = 32 ∨ T p = 10
      · rw [if_pos hb, wd_c_s, show (1 : Int32) = Int32.ofNat 1 from rfl, show fn_Math_max (Int32.ofNat 1) = fn_Math_max 1 from rfl, sc_max (by decide) (by decide), wd_c_s, show Int32.ofNat p + Int32.ofNat 1 = Int32.ofNat (p + 1) from im_s p]
        refine ih (n - (p + 1)) (by omega) (p + 1) c f _ (by omega) (by omega) ⟨of_i (by unfold sc_W; omega) ho, ?_, hle, fun j hj => ?_⟩ ?_
        · rw [fr_ne (by omega)]; exact hc
        · obtain ⟨h1, h2, h3⟩ := hrow j hj
          refine ⟨?_, ?_, h3⟩
          · rw [fr_ne (by omega)]; exact h1
          · rw [fr_ne (by omega)]; exact h2
        · rw [← tk_n_b hpn hb]; exact htk
      · obtain ⟨hz1, hz2⟩ := tk_z_ok (T := T) hpn
        have ep : tk_p T n c = p := by rw [← htk, tk_n_t hpn hb]
        rw [if_neg hb, wd_c_s, sc_max hz1 (by omega), wd_c_s, ← Int32.ofNat_add]
        have ec : (wd_i S 8 c (Int32.ofNat p)).1 4 5 = Int32.ofNat c := by rw [fr_ne (by omega)]; exact hc
        unfold fo_kp
        rw [ec, ro_pn (L := 1501) rfl hcl, lo_pn (L := 1501) rfl hcl, im_s]
        refine ih (n - (p + tk_z T n p)) (by omega) (p + tk_z T n p) (c + 1) f _ (by omega) (by omega) ⟨of_i (by unfold sc_W; omega) (of_l (by unfold sc_W; omega) (of_i (by unfold sc_W; omega) (of_i (by unfold sc_W; omega) ho))), fr_eq, by omega, fun j hj => ?_⟩ ?_
        · rw [fr_ne (by omega), fr_ne (by omega)]
          show (wd_i (wd_i S 8 c (Int32.ofNat p)) 6 c (tk_k T n p)).1 6 j = _ ∧ (wd_i (wd_i S 8 c (Int32.ofNat p)) 6 c (tk_k T n p)).1 8 j = _ ∧ (if 10 = 10 ∧ j = c then tk_v T n p else S.2.1 10 j) = _
          by_cases hj2 : j = c
          · rw [hj2, fr_eq, fr_ne (by omega), fr_eq, if_pos ⟨rfl, rfl⟩, ep]
            refine ⟨?_, rfl, ?_⟩
            · unfold tk_K
              rw [ep, if_pos hpn]
            · unfold tk_V
              rw [ep]
          · obtain ⟨h1, h2, h3⟩ := hrow j (by omega)
            rw [fr_ne (fun z => hj2 z.2), fr_ne (by omega), fr_ne (by omega), fr_ne (fun z => hj2 z.2), if_neg (fun z => hj2 z.2)]
            exact ⟨h1, h2, h3⟩
        · rw [tk_p_s (by rw [ep]; exact hpn), ep]
    · rw [if_neg (fun z => hcl ((mo_lt (m := 1501) (b := 1501) (by omega) (by omega) rfl).mp z))]
      exact ⟨S, c, rfl, ⟨ho, hc, hle, hrow⟩, Or.inl (by omega)⟩
  · rw [if_neg (fun z => hpn ((im_lt (by omega) (by omega)).mp z))]
    have e : p = n := by omega
    refine ⟨S, c, rfl, ⟨ho, hc, hle, hrow⟩, Or.inr ?_⟩
    rw [← htk, e, tk_n_e]
/-- what the reader sees of the tokens -/
def tk_ok (T : Nat → Int32) (n : Nat) (S : wd_S) : Prop := ∀ i, i ≤ 1500 → (if Int32.ofNat i < S.1 4 5 then ro_at 5 (Int32.ofNat i) S else 20) = tk_K T n i ∧ (if Int32.ofNat i < S.1 4 5 then ro_at 7 (Int32.ofNat i) S else S.1 4 4) = Int32.ofNat (tk_p T n i) ∧ (tk_p T n i < n → lo_at 9 (Int32.ofNat i) S = tk_V T n i)
theorem sc_scan {n : Nat} {S : wd_S} (h8 : n ≤ 8000) : ∃ S', fn_Tokens_scan (Int32.ofNat n) S = some S' ∧ of_f (fun a k => sc_W a k ∨ (a = 4 ∧ k = 4)) S S' ∧ tk_ok (S.1 3) n S' := by
  unfold fn_Tokens_scan
  simp only [wd_b]
  obtain ⟨S', c, h1, ⟨ho, hc, hle, hrow⟩, hend⟩ := sc_loop (T := S.1 3) (n := n) (S0 := wd_i (wd_i S 4 4 (Int32.ofNat n)) 4 5 0) h8 (by rw [fr_row _ (by decide), fr_row _ (by decide)]) (by rw [fr_ne (by omega), fr_eq]) n 0 0 wd_F (wd_i (wd_i S 4 4 (Int32.ofNat n)) 4 5 0) (Nat.zero_add n) (by rw [show wd_F = 1000000 from rfl]; omega) ⟨of_refl, fr_eq, by decide, fun j hj => absurd hj (Nat.not_lt_zero j)⟩ rfl
  refine ⟨S', h1, ?_, fun i hi => ?_⟩
  · refine of_trans (of_i (by unfold sc_W; omega) (of_i (by omega) of_refl)) (of_mono (fun a k h => Or.inl h) ho)
  · rw [hc]
    have e44 : S'.1 4 4 = Int32.ofNat n := by rw [ho.1 4 4 (by unfold sc_W; omega), fr_ne (by omega), fr_eq]
    have hple := tk_p_le (S.1 3) n i
    by_cases hic : i < c
    · obtain ⟨r1, r2, r3⟩ := hrow i hic
      rw [if_pos ((im_lt (by omega) (by omega)).mpr hic), if_pos ((im_lt (by omega) (by omega)).mpr hic), ro_an (L := 1501) rfl (by omega), ro_an (L := 1501) rfl (by omega), lo_an (L := 1501) rfl (by omega)]
      exact ⟨r1, r2, fun _ => r3⟩
    · have e : tk_p (S.1 3) n i = n := by
        rcases hend with h | h
        · omega
        · have := tk_p_e h (i - c)
          rw [show c + (i - c) = i by omega] at this
          exact this
      rw [if_neg (fun z => hic ((im_lt (by omega) (by omega)).mp z)), if_neg (fun z => hic ((im_lt (by omega) (by omega)).mp z)), e44, e]
      refine ⟨?_, rfl, fun z => absurd z (Nat.lt_irrefl _)⟩
      unfold tk_K
      rw [e, if_neg (Nat.lt_irrefl _)]
