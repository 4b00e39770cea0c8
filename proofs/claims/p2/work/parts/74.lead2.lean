/-! The class leads its calls. -/
def ld_W (b a k : Nat) : Prop := (a = 47 ∧ (k = 4 ∨ k = 5 ∨ k = 6)) ∨ a = b + 5
def ld_G (V : Nat → Int64) (fs : List ps_F) (v : Int32) : Int32 := match ps_ix (V v.toNatClampNeg) fs 0 none with
  | some f => Int32.ofNat f
  | none => -1
def ld_st (K : Nat → Int32) (V : Nat → Int64) (b : Nat) (fs : List ps_F) (S : wd_S) : Prop := rd_X K V b S ∧ S.1 b 3 = Int32.ofNat fs.length ∧ fs.length ≤ 48 ∧ (∀ j, (hj : j < fs.length) → S.2.1 49 j = fs[j].1 ∧ S.1 (b + 17) j = Int32.ofNat fs[j].2.1 ∧ fs[j].2.1 ≤ 4)
section Ld2
variable {K : Nat → Int32} {V : Nat → Int64} {b : Nat} {S S' S1 : wd_S} {fs : List ps_F} {c x o a last : Nat}
theorem ld_st_o (h : ld_st K V b fs S) (ho : of_f (ld_W b) S S') : ld_st K V b fs S' := by
  obtain ⟨h1, h2, h3, h4⟩ := h
  have hb := h1.1
  refine ⟨rd_X_o h1 (of_mono (fun a k q => by unfold ld_W at q; unfold rf_W; omega) ho), ?_, h3, fun j hj => ?_⟩
  · rw [ho.1 b 3 (by unfold ld_W; omega)]; exact h2
  · rw [ho.2.1 49 j (by unfold ld_W; omega), ho.1 (b + 17) j (by unfold ld_W; omega)]
    exact h4 j hj
/-- where a name's function is -/
theorem ld_ix (h : ld_st K V b fs S) {y : Int64} : ∃ w, fn_LongRow_lastOf 48 y (Int32.ofNat fs.length) S = some (w, S) ∧ ((ps_ix y fs 0 none = none ∧ w = -1) ∨ ∃ f, f < fs.length ∧ ps_ix y fs 0 none = some f ∧ w = Int32.ofNat f) := by
  obtain ⟨h1, h2, h3, h4⟩ := h
  obtain ⟨w, w1, w2⟩ := fo_lastOf (r := 48) (x := y) (S := S) fs.length wd_F (by omega) (by rw [show wd_F = 1000000 from rfl]; omega)
  have hkey : ∀ j, (hj : j < fs.length) → lo_at 48 (Int32.ofNat j) S = fs[j].1 := fun j hj => by
    rw [lo_an (L := 48) rfl (by omega)]
    exact (h4 j hj).1
  refine ⟨w, w1, ?_⟩
  rcases w2 with ⟨rfl, w3⟩ | ⟨j, hj, rfl, w3, w4⟩
  · refine Or.inl ⟨ps_ix_none _ _ _ (fun q hq z => ?_), rfl⟩
    obtain ⟨j, hj, rfl⟩ := List.getElem_of_mem hq
    exact w3 j hj (sm_eq.mpr ((hkey j hj).trans z))
  · refine Or.inr ⟨j, hj, ?_, rfl⟩
    rw [ps_ix_some fs 0 none j hj (by rw [← hkey j hj]; exact sm_eq.mp w3) (fun n hn hl z => w4 n hn hl (sm_eq.mpr ((hkey n hl).trans z))), Nat.zero_add]
theorem fo_leadCall_62 {p q : Int32} (hX : rd_X K V b S) : fn_Reader_leadCall_62 p q S = some (ro_put (b + 1 + 3) p q S) := by
  unfold fn_Reader_leadCall_62
  rw [rd_r2 hX of_refl, if_pos (rd_t2 hX), fo_lead, wd_d_s]
theorem ld_call (h : ld_st K V b fs S) (hK : K o = 2) (ho : o < 1500) (hx : x < 1500) (ha : S.1 (b + 1 + 6) x = Int32.ofNat a) (ha2 : a ≤ 2000) (h0 : S.1 47 5 = 0) : ∃ S', fn_Reader_leadCall (Int32.ofNat x) (Int32.ofNat o) S = some S' ∧ of_f (ld_W b) S S' ∧ (∀ y, y ≠ x → S'.1 (b + 1 + 4) y = S.1 (b + 1 + 4) y) ∧ match ps_bad V fs (o, a + 1) with
    | some e => ¬e.1 = 0 ∧ S'.1 47 5 = e.1 ∧ S'.1 47 6 = Int32.ofNat e.2
    | none => S'.1 47 5 = 0 ∧ S'.1 (b + 1 + 4) x = ld_G V fs (Int32.ofNat o) := by
  have hX := h.1
  have hb := hX.1
  have hL := rd_L hX
  have h2 := h.2.1
  have h3 := h.2.2.1
  obtain ⟨w, w1, w2⟩ := ld_ix (y := V o) h
  have hput : ∀ (S1 : wd_S) (v : Int32), ro_put (b + 1 + 3) (Int32.ofNat x) v S1 = wd_i S1 (b + 5) x v := fun S1 v => by rw [ro_pn hL.2.1 hx]
  have hfa : ∀ (z : Int32) (S1 : wd_S), S1 = S → ¬z = 0 → ∀ v, ∃ S', wd_d (some (fo_fa z (Int32.ofNat o) S1)) (fun S28 => fn_Reader_leadCall_62 (Int32.ofNat x) v S28) = some S' ∧ of_f (ld_W b) S S' ∧ (∀ y, y ≠ x → S'.1 (b + 1 + 4) y = S.1 (b + 1 + 4) y) ∧ ¬z = 0 ∧ S'.1 47 5 = z ∧ S'.1 47 6 = Int32.ofNat o := by
    intro z S1 e1 hz v
    subst e1
    have o1 : of_f (ld_W b) S1 (fo_fa z (Int32.ofNat o) S1) := by
      rw [rd_fa0 h0]
      exact of_i (by unfold ld_W; omega) (of_i (by unfold ld_W; omega) (of_i (by unfold ld_W; omega) of_refl))
    rw [wd_d_s, fo_leadCall_62 (ld_st_o h o1).1, hput]
    refine ⟨_, rfl, of_i (by unfold ld_W; omega) o1, fun y hy => ?_, hz, ?_, ?_⟩
    · rw [fr_ne (by omega), (rd_fa_out).1 _ (by omega)]
    · rw [fr_ne (by omega), rd_fa0 h0, fr_ne (by omega), fr_ne (by omega), fr_eq]
    · rw [fr_ne (by omega), rd_fa0 h0, fr_ne (by omega), fr_eq]
  unfold fn_Reader_leadCall ps_bad fn_Bodies_count ld_G
  rw [fo_value, wd_c_s, rd_val hX of_refl (by omega) (Or.inr hK), rd_r1 hX of_refl, if_pos (rd_t1 hX), wd_c_s, h2, w1, wd_c_s, if_neg (Nat.succ_ne_zero _), im_t (by omega)]
  rcases w2 with ⟨p1, rfl⟩ | ⟨f, hf, p1, rfl⟩
  · rw [if_pos rfl, fo_faultAt, p1]
    exact hfa 4 S rfl (by decide) (-1)
  · rw [if_neg (fun z => by have := congrArg Int32.toInt z; rw [im_i (by omega)] at this; exact absurd this (by show ¬(f : Int) = -1; omega)), rd_r2 hX of_refl, if_pos (rd_t2 hX), fo_tparts, wd_c_s, rd_r1 hX of_refl, if_pos (rd_t1 hX), fo_params, wd_c_s, ro_an hL.2.2.1 hx, ha, ro_an (L := 48) (by rcases hb with z | z <;> rw [z] <;> rfl) (by omega), p1]
    obtain ⟨-, q2, q3⟩ := h.2.2.2 f hf
    have eg : fs.getD f ps_d = fs[f] := by rw [List.getD_eq_getElem?_getD, List.getElem?_eq_getElem hf, Option.getD_some]
    simp only [Nat.add_sub_cancel]
    rw [show S.1 (b + 16 + 1) f = Int32.ofNat fs[f].2.1 from q2, eg]
    by_cases hp : fs[f].2.1 = a
    · rw [if_pos (by rw [hp]), if_pos hp, fo_leadCall_62 hX, hput]
      refine ⟨_, rfl, of_i (by unfold ld_W; omega) of_refl, fun y hy => ?_, ?_, ?_⟩
      · rw [fr_ne (by omega)]
      · rw [fr_ne (by omega)]; exact h0
      · rw [fr_e (by omega)]
    · rw [if_neg (fun z => hp ((im_eq (by omega) (by omega)).mp z).symm), if_neg hp, fo_faultAt]
      exact hfa 5 S rfl (by decide) _
theorem ld_82 {F : Nat} {l y : Int32} (hX : rd_X K V b S) (h : ¬S.1 47 5 = 0) : fn_Reader_leadCalls_21 (F + 1) l y S = fn_Reader_leadCalls_82 S := by
  rw [fn_Reader_leadCalls_21]
  unfold fn_Trees_count
  rw [rd_r2 hX of_refl, if_pos (rd_t2 hX), wd_c_s, if_neg h, ite_self]
theorem ld_loop (hl : last ≤ 1500) (hc : c ≤ 1500) : ∀ (k F x : Nat) (C : List (Nat × Nat)) (S : wd_S), x + k = c → k < F → S.1 (b + 1) 6 = Int32.ofNat c → ld_st K V b fs S → S.1 47 5 = 0 → nd_c (b + 1) S k x = C.map (fun q => (Int32.ofNat q.1, Int32.ofNat (q.2 - 1))) → (∀ q, q ∈ C → K q.1 = 2 ∧ q.1 < 1500 ∧ 1 ≤ q.2 ∧ q.2 ≤ 2000) → ∃ S', fn_Reader_leadCalls_21 F (Int32.ofNat last) (Int32.ofNat x) S = fn_Reader_leadCalls_82 S' ∧ of_f (ld_W b) S S' ∧ match ps_fl V fs last C with
    | some e => ¬e.1 = 0 ∧ S'.1 47 5 = e.1 ∧ S'.1 47 6 = Int32.ofNat e.2
    | none => S'.1 47 5 = 0 ∧ ∀ y, S'.1 (b + 1 + 4) y = if x ≤ y ∧ y < c ∧ S.1 (b + 1 + 2) y = 5 ∧ S.1 (b + 1 + 4) y < Int32.ofNat last then ld_G V fs (S.1 (b + 1 + 4) y) else S.1 (b + 1 + 4) y := by
  intro k
  induction k with
  | zero =>
    intro F x C S hk hF h6 hst h0 hC hq
    obtain ⟨F, rfl⟩ : ∃ g, F = g + 1 := ⟨F - 1, by omega⟩
    have hX := hst.1
    have eC : C = [] := by
      cases C with
      | nil => rfl
      | cons q r => cases hC
    subst eC
    rw [fn_Reader_leadCalls_21]
    unfold fn_Trees_count
    rw [rd_r2 hX of_refl, if_pos (rd_t2 hX), wd_c_s, h6, if_neg (fun z => by have := (im_lt (by omega) (by omega)).mp z; omega)]
    exact ⟨S, rfl, of_refl, h0, fun y => (if_neg (fun z => by omega)).symm⟩
  | succ k ih =>
    intro F x C S hk hF h6 hst h0 hC hq
    obtain ⟨F, rfl⟩ : ∃ g, F = g + 1 := ⟨F - 1, by omega⟩
    have hX := hst.1
    have hb := hX.1
    have hL := rd_L hX
    have hx : x < 1500 := by omega
    rw [fn_Reader_leadCalls_21]
    unfold fn_Trees_count fn_Reader_leadCalls_76
    simp only [wd_c_s, rd_r2 hX of_refl, if_pos (rd_t2 hX), fo_tkind, fo_tvalue]
    rw [h6, if_pos ((im_lt (by omega) (by omega)).mpr (by omega)), if_pos h0, ro_an hL.1 hx, ro_an hL.2.1 hx, im_s]
    rw [nd_c_s] at hC
    by_cases h5 : S.1 (b + 1 + 2) x = 5
    · rw [if_pos h5] at hC
      cases C with
      | nil => cases hC
      | cons q C =>
        obtain ⟨e1, e2⟩ := List.cons.inj hC
        have e3 : S.1 (b + 1 + 4) x = Int32.ofNat q.1 := congrArg Prod.fst e1
        have e4 : S.1 (b + 1 + 6) x = Int32.ofNat (q.2 - 1) := congrArg Prod.snd e1
        obtain ⟨k1, k2, k3, k4⟩ := hq q List.mem_cons_self
        rw [show S.1 (b + 1 + 1 + 1) x = S.1 (b + 1 + 2) x from rfl, if_pos h5, show S.1 (b + 1 + 3 + 1) x = S.1 (b + 1 + 4) x from rfl, e3]
        unfold ps_fl
        rw [if_neg (show ¬q.2 = 0 by omega)]
        by_cases hlt : q.1 < last
        · rw [if_pos ((im_lt (by omega) (by omega)).mpr hlt), if_pos hlt]
          obtain ⟨S2, f1, f2, f3, f4⟩ := ld_call hst k1 k2 hx e4 (by omega) h0
          rw [f1, wd_d_s]
          rw [show (q.1, q.2 - 1 + 1) = q from Prod.ext rfl (by show q.2 - 1 + 1 = q.2; omega)] at f4
          have hst2 := ld_st_o hst f2
          cases hbad : ps_bad V fs q with
          | some e =>
            rw [hbad] at f4
            obtain ⟨F, rfl⟩ : ∃ g, F = g + 1 := ⟨F - 1, by omega⟩
            exact ⟨S2, ld_82 hst2.1 (by rw [f4.2.1]; exact f4.1), f2, f4⟩
          | none =>
            rw [hbad] at f4
            have gk : ∀ y, S2.1 (b + 1 + 2) y = S.1 (b + 1 + 2) y := fun y => f2.1 _ _ (by unfold ld_W; omega)
            have e5 : nd_c (b + 1) S2 k (x + 1) = nd_c (b + 1) S k (x + 1) := by
              have : ∀ (k x' : Nat), x < x' → nd_c (b + 1) S2 k x' = nd_c (b + 1) S k x' := by
                intro k
                induction k with
                | zero => intro x' _; rfl
                | succ k ih2 =>
                  intro x' hx'
                  rw [nd_c_s, nd_c_s, gk, f3 x' (by omega), f2.1 (b + 1 + 6) x' (by unfold ld_W; omega), ih2 (x' + 1) (by omega)]
              exact this k (x + 1) (by omega)
            obtain ⟨S3, g1, g2, g3⟩ := ih F (x + 1) C S2 (by omega) (by omega) (by rw [f2.1 (b + 1) 6 (by unfold ld_W; omega)]; exact h6) hst2 f4.1 (e5.trans e2) (fun z hz => hq z (List.mem_cons_of_mem _ hz))
            refine ⟨S3, g1, of_trans f2 g2, ?_⟩
            simp only []
            cases hfl : ps_fl V fs last C with
            | some e => rw [hfl] at g3; exact g3
            | none =>
              rw [hfl] at g3
              refine ⟨g3.1, fun y => ?_⟩
              rw [g3.2 y, gk]
              by_cases hy : y = x
              · subst hy
                rw [if_neg (fun z => by omega), if_pos ⟨Nat.le_refl _, by omega, h5, by rw [e3]; exact (im_lt (by omega) (by omega)).mpr hlt⟩, f4.2, e3]
              · rw [f3 y hy]
                by_cases hc2 : x + 1 ≤ y ∧ y < c ∧ S.1 (b + 1 + 2) y = 5 ∧ S.1 (b + 1 + 4) y < Int32.ofNat last
                · rw [if_pos hc2, if_pos ⟨by omega, hc2.2⟩]
                · rw [if_neg hc2, if_neg (fun z => hc2 ⟨by omega, z.2⟩)]
        · rw [if_neg (fun z => hlt ((im_lt (by omega) (by omega)).mp z)), if_neg hlt]
          obtain ⟨S3, g1, g2, g3⟩ := ih F (x + 1) C S (by omega) (by omega) h6 hst h0 e2 (fun z hz => hq z (List.mem_cons_of_mem _ hz))
          refine ⟨S3, g1, g2, ?_⟩
          cases hfl : ps_fl V fs last C with
          | some e => rw [hfl] at g3; exact g3
          | none =>
            rw [hfl] at g3
            refine ⟨g3.1, fun y => ?_⟩
            rw [g3.2 y]
            by_cases hc2 : x + 1 ≤ y ∧ y < c ∧ S.1 (b + 1 + 2) y = 5 ∧ S.1 (b + 1 + 4) y < Int32.ofNat last
            · rw [if_pos hc2, if_pos ⟨by omega, hc2.2⟩]
            · rw [if_neg hc2, if_neg (fun z => hc2 ⟨by
                have : y ≠ x := fun w => by
                  rw [w, e3] at z
                  exact hlt ((im_lt (by omega) (by omega)).mp z.2.2.2)
                omega, z.2⟩)]
    · rw [if_neg h5] at hC
      rw [show S.1 (b + 1 + 1 + 1) x = S.1 (b + 1 + 2) x from rfl, if_neg h5]
      obtain ⟨S3, g1, g2, g3⟩ := ih F (x + 1) C S (by omega) (by omega) h6 hst h0 hC hq
      refine ⟨S3, g1, g2, ?_⟩
      cases hfl : ps_fl V fs last C with
      | some e => rw [hfl] at g3; exact g3
      | none =>
        rw [hfl] at g3
        refine ⟨g3.1, fun y => ?_⟩
        rw [g3.2 y]
        by_cases hc2 : x + 1 ≤ y ∧ y < c ∧ S.1 (b + 1 + 2) y = 5 ∧ S.1 (b + 1 + 4) y < Int32.ofNat last
        · rw [if_pos hc2, if_pos ⟨by omega, hc2.2⟩]
        · rw [if_neg hc2, if_neg (fun z => hc2 ⟨by
            have : y ≠ x := fun w => by
              rw [w] at z
              exact h5 z.2.2.1
            omega, z.2⟩)]
end Ld2
