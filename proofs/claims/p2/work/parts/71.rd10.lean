/-! The class's reader takes a program. -/
section Rd10
variable {K : Nat → Int32} {V : Nat → Int64} {b : Nat} {S0 : wd_S} {i m : Nat} {sc : List (Int64 × Nat)} {ms : Int32} {S S' S1 : wd_S} {e : ps_E} {s : Nat} {k : Int32} {n c d : Nat} {a z u v : Int32} {self : ps_P} {x : Int64} {fs : List ps_F} {g G : Nat}
/-- behind the name -/
noncomputable def rd_f4 (S20 : wd_S) : Option wd_S := wd_d (fn_Reader_takeKind (15 : Int32) S20) fun S21 => if (S21.1 47 4) = (16 : Int32) then fn_Reader_takeFunction_124 S21 else wd_d (fn_Reader_takeParam S21) fun S45 => fn_Reader_takeFunction_92 wd_F (0 : Int32) S45
theorem rd_55_eq {l p q : Int32} : fn_Reader_takeFunction_55 l p q S = rd_f4 (wd_i (wd_i (lo_put 48 l (lo_at 9 (S.1 47 3) S) (fo_nn p q S)) 47 8 0) 47 11 0) := by
  unfold fn_Reader_takeFunction_55
  rw [fo_newName, wd_c_s, lo_put_ok, wd_d_s]
  rfl
theorem rd_f4_b (hX : rd_X K V b S) (h : rd_bd b S e 0 S) (hg : S.1 b 3 = Int32.ofNat g) (hg2 : g + 1 ≤ G) : ∃ S', rd_f4 S = some S' ∧ of_f (rf_W b) S S' ∧ rd_fb b G e S' ∧ S'.1 47 4 = 20 := by
  have hb := hX.1
  unfold rd_f4
  have h1 := rd_bd_tk (k := 15) h (by decide) (by decide)
  rw [fo_takeKind, wd_d_s, if_neg (rd_bd_ne h1 (by decide) (by decide))]
  obtain ⟨S2, e2, h2⟩ := rd_par_b h1 (by decide)
  rw [e2, wd_d_s, show wd_F = 999999 + 1 from rfl, rd_92_b h2]
  obtain ⟨S', e1, f1, f2, f3⟩ := rd_124_b (rd_X_o hX (rf_of h2.1)) (rd_bb h2) (by decide) (show S2.1 b 3 = Int32.ofNat g by rw [h2.1.1 b 3 (by unfold rd_W; omega)]; exact hg) hg2
  exact ⟨S', e1, of_trans (rf_of h2.1) f1, f2, f3⟩
/-- the name is kept, nothing is told of the function yet -/
theorem rd_f4_s (hX : rd_X K V b S) (ho : of_f (rd_W b) S S1) {l : Int32} {y : Int64} : of_f (rf_W b) S (wd_i (wd_i (lo_put 48 l y S1) 47 8 0) 47 11 0) ∧ rd_X K V b (wd_i (wd_i (lo_put 48 l y S1) 47 8 0) 47 11 0) := by
  have o : of_f (rf_W b) S (wd_i (wd_i (lo_put 48 l y S1) 47 8 0) 47 11 0) := of_i (by unfold rf_W; omega) (of_i (by unfold rf_W; omega) (of_lput (fun k => by unfold rf_W; omega) (rf_of ho)))
  exact ⟨o, rd_X_o hX o⟩
theorem rd_f4_bs {l : Int32} {y : Int64} (h : rd_bd b S0 e s S1) : rd_bd b (wd_i (wd_i (lo_put 48 l y S1) 47 8 0) 47 11 0) e 0 (wd_i (wd_i (lo_put 48 l y S1) 47 8 0) 47 11 0) := by
  obtain ⟨-, a2, a3, a4⟩ := h
  refine ⟨of_refl, fr_eq, a3, ?_⟩
  rw [fr_ne (by omega), fr_ne (by omega), fr_ne (by omega), fr_ne (by omega), fr_ne (by omega), fr_ne (by omega), fr_ne (by omega), fr_ne (by omega), fr_q2]
  exact a4
theorem rd_fun_b (hX : rd_X K V b S) (h : rd_fb b 60 e S) : ∃ S', fn_Reader_takeFunction S = some S' ∧ of_f (rf_W b) S S' ∧ rd_fb b 61 e S' ∧ S'.1 47 4 = 20 := by
  obtain ⟨s, g, hs, hg, h1, h2⟩ := h
  have hb := hX.1
  have h55 : ∀ l p q, ∃ S', fn_Reader_takeFunction_55 l p q S = some S' ∧ of_f (rf_W b) S S' ∧ rd_fb b 61 e S' ∧ S'.1 47 4 = 20 := by
    intro l p q
    rw [rd_55_eq]
    have h3 := rd_bd_nn (p := p) (q := q) h1
    obtain ⟨o3, hX3⟩ := rd_f4_s (l := l) (y := lo_at 9 (S.1 47 3) S) hX h3.1
    obtain ⟨S', e1, f1, f2, f3⟩ := rd_f4_b (G := 61) hX3 (rd_f4_bs h3) (g := g) (by rw [fr_ne (by omega), fr_ne (by omega), fr_q2, h3.1.1 b 3 (by unfold rd_W; omega)]; exact h2) (by omega)
    exact ⟨S', e1, of_trans o3 f1, f2, f3⟩
  obtain ⟨w, w1, -⟩ := fo_lastOf (r := 48) (x := lo_at 9 (S.1 47 3) S) (S := S) g wd_F (by omega) (by rw [show wd_F = 1000000 from rfl]; omega)
  have w1 : fn_LongRow_lastOf 48 (lo_at 9 (S.1 47 3) S) (Int32.ofNat g) S = some (w, S) := w1
  unfold fn_Reader_takeFunction fn_Reader_takeFunction_36 fn_Bodies_count
  rw [rd_r1 hX of_refl, if_pos (rd_t1 hX), wd_c_s, fo_value, wd_c_s, h2, w1, wd_c_s]
  split
  · split
    · exact h55 _ _ _
    · exact h55 _ _ _
  · split
    · exact h55 _ _ _
    · exact h55 _ _ _
theorem rd_f4_g (hX : rd_X K V b S) {o : Nat} (h : rd_h K b S i 0 [] ms S) (hP : rd_P b fs c S) (hc : c ≤ i) (h48 : fs.length < 48) (hk : S.2.1 49 fs.length = V o) : ∃ S', rd_f4 S = some S' ∧ rd_U K b S fs c ms (ps_b (ps_b (ps_take K 15 i) fun i2 => if K i2 = 16 then .ok ([], i2) else ps_b (ps_par K V [] i2) fun q => ps_pars K V 1500 q.1 q.2) (ps_body K V o)) S' := by
  have hb := hX.1
  unfold rd_f4
  rw [fo_takeKind, wd_d_s]
  cases q1 : ps_take K 15 i with
  | error e =>
    have h1 := rd_tk_er hX h q1
    rw [if_neg (rd_bd_ne h1 (by decide) (by decide))]
    obtain ⟨S2, e2, h2⟩ := rd_par_b h1 (by decide)
    rw [e2, wd_d_s, show wd_F = 999999 + 1 from rfl, rd_92_b h2]
    obtain ⟨S', e1, f1, f2, f3⟩ := rd_124_b (G := 60) (rd_X_o hX (rf_of h2.1)) (rd_bb h2) (by decide) (show S2.1 b 3 = Int32.ofNat fs.length by rw [h2.1.1 b 3 (by unfold rd_W; omega)]; exact hP.1) (by omega)
    exact ⟨S', e1, of_trans (rf_of h2.1) f1, f2⟩
  | ok i2 =>
    obtain ⟨t1, t2, rfl, t4⟩ := ps_take_ok q1
    have h1 := rd_tk_ok hX h q1
    obtain ⟨a1, -, a2⟩ := rd_tk_out (k := 15) (S := S)
    generalize fo_tk 15 S = S1 at h1 a1 a2 ⊢
    have hX1 := rd_X_o hX (rf_of h1.1)
    rw [h1.2.2.2.2.1]
    show ∃ S', _ ∧ rd_U K b S fs c ms (ps_b (if K (i + 1) = 16 then .ok ([], i + 1) else _) _) S'
    by_cases hk16 : K (i + 1) = 16
    · rw [if_pos hk16, if_pos hk16]
      obtain ⟨S', e1, f1, f2⟩ := rd_124 (o := o) (c := c) (fs := fs) (sc := []) hX1 (rd_rb h1) (rd_P_o (fun a y1 y2 => a1 a (by omega)) (fun j _ => by rw [a2]) hP) (by omega) h48 (by rw [a2]; exact hk)
      exact ⟨S', e1, of_trans (rf_of h1.1) f1, f2⟩
    · rw [if_neg hk16, if_neg hk16]
      obtain ⟨S2, e2, r2⟩ := rd_param hX h1 rfl (by decide)
      rw [e2, wd_d_s]
      show ∃ S', _ ∧ rd_U K b S fs c ms (ps_b (ps_b (ps_par K V [] (i + 1)) _) _) S'
      cases q2 : ps_par K V [] (i + 1) with
      | error e =>
        rw [q2] at r2
        obtain ⟨s, hs, r2⟩ := r2
        rw [show wd_F = 999999 + 1 from rfl, rd_92_b r2]
        obtain ⟨S', e1, f1, f2, f3⟩ := rd_124_b (G := 60) (rd_X_o hX (rf_of r2.1)) (rd_bb r2) (by omega) (show S2.1 b 3 = Int32.ofNat fs.length by rw [r2.1.1 b 3 (by unfold rd_W; omega)]; exact hP.1) (by omega)
        exact ⟨S', e1, of_trans (rf_of r2.1) f1, f2⟩
      | ok q =>
        rw [q2] at r2
        obtain ⟨p1, p2, rfl, p4, p5, p6⟩ := ps_par_ok q2
        obtain ⟨h2, b1, b2⟩ := r2
        obtain ⟨S3, e3, r3⟩ := rd_pars hX 1500 wd_F (i + 1 + 1) [(V (i + 1), 0)] 0 S2 rfl (by decide) h2 (show 1 ≤ 4 by decide)
        have e3 : fn_Reader_takeFunction_92 wd_F 0 S2 = fn_Reader_takeFunction_124 S3 := e3
        rw [e3]
        show ∃ S', _ ∧ rd_U K b S fs c ms (ps_b (ps_pars K V 1500 [(V (i + 1), 0)] (i + 1 + 1)) _) S'
        cases q3 : ps_pars K V 1500 [(V (i + 1), 0)] (i + 1 + 1) with
        | error e =>
          rw [q3] at r3
          obtain ⟨s, hs, r3⟩ := r3
          obtain ⟨S', e1, f1, f2, f3⟩ := rd_124_b (G := 60) (rd_X_o hX (rf_of r3.1)) (rd_bb r3) (by omega) (show S3.1 b 3 = Int32.ofNat fs.length by rw [r3.1.1 b 3 (by unfold rd_W; omega)]; exact hP.1) (by omega)
          exact ⟨S', e1, of_trans (rf_of r3.1) f1, f2⟩
        | ok w =>
          rw [q3] at r3
          obtain ⟨w1, w2⟩ := w
          obtain ⟨h3, d1, d2⟩ := r3
          have h3 : rd_h K b S w2 w1.length w1 ms S3 := h3
          obtain ⟨v1, v2, v3, v4, v5⟩ := ps_pars_ok _ _ _ _ q3 p2 p4 ⟨rfl, trivial⟩ (show 1 ≤ 4 by decide)
          have v1 : i + 1 + 1 ≤ w2 := v1
          have eA : ∀ a, a ≠ 47 → a ≠ 53 → S3.1 a = S.1 a := fun a y1 y2 => by rw [d1 a y1 y2, b1 a y1 y2, a1 a y1]
          have eB : S3.2.1 49 = S.2.1 49 := by rw [d2 49 (by decide), b2 49 (by decide), a2]
          obtain ⟨S', e1, f1, f2⟩ := rd_124 (o := o) (c := c) (fs := fs) (sc := w1) (rd_X_o hX (rf_of h3.1)) (rd_rb h3) (rd_P_o (fun a y1 y2 => eA a (by omega) (by omega)) (fun j _ => by rw [eB]) hP) (by omega) h48 (by rw [eB]; exact hk)
          exact ⟨S', e1, of_trans (rf_of h3.1) f1, f2⟩
/-- the same with nothing known of names -/
def rd_w (K : Nat → Int32) (b : Nat) (S0 : wd_S) (i : Nat) (ms : Int32) (S : wd_S) : Prop := of_f (rd_W b) S0 S ∧ i ≤ 1500 ∧ ¬K i = 19 ∧ S.1 47 3 = Int32.ofNat i ∧ S.1 47 4 = K i ∧ S.1 47 5 = 0 ∧ S.1 47 12 = ms
theorem rd_hw (h : rd_h K b S0 i m sc ms S) : rd_w K b S0 i ms S := ⟨h.1, h.2.1, h.2.2.1, h.2.2.2.1, h.2.2.2.2.1, h.2.2.2.2.2.1, h.2.2.2.2.2.2.2.2.2.2.2⟩
theorem im_any (x : Int32) : ∃ s, x = Int32.ofNat s := ⟨x.toBitVec.toNat, by
  rw [← Int32.toBitVec_inj]
  show x.toBitVec = BitVec.ofNat 32 x.toBitVec.toNat
  rw [BitVec.ofNat_toNat, BitVec.setWidth_eq]⟩
theorem rd_faultw (h : rd_w K b S0 i ms S) {x : Int32} (hx : ¬x = 0) : ∃ s, rd_bd b S0 (x, i) s (fo_fa x (S.1 47 3) S) := by
  obtain ⟨a1, a2, a3, a4, a5, a6, a12⟩ := h
  obtain ⟨s, hs⟩ := im_any (S.1 47 11)
  rw [rd_fa0 a6, a4]
  refine ⟨s, of_i (Or.inl rfl) (of_i (Or.inl rfl) (of_i (Or.inl rfl) a1)), ?_, ⟨hx, a2⟩, Or.inl ⟨?_, ?_, fr_eq⟩⟩
  · rw [fr_ne (by omega), fr_ne (by omega), fr_ne (by omega)]; exact hs
  · rw [fr_ne (by omega), fr_ne (by omega), fr_eq]
  · rw [fr_ne (by omega), fr_eq]
theorem rd_tkw_ok (hX : rd_X K V b S0) (h : rd_w K b S0 i ms S) {j : Nat} (q : ps_take K k i = .ok j) : rd_w K b S0 j ms (fo_tk k S) := by
  obtain ⟨q1, q2, rfl, q4⟩ := ps_take_ok q
  obtain ⟨h1, h2, h3⟩ := rd_tk_out (k := k) (S := S)
  have hb := hX.1
  obtain ⟨a1, a2, a3, a4, a5, a6, a12⟩ := h
  have e : fo_tk k S = wd_i (wd_i S 47 3 (Int32.ofNat (i + 1))) 47 4 (K (i + 1)) := by
    unfold fo_tk
    rw [a5, if_pos q1, a4, if_pos ((mo_lt (m := 1500) (b := 1500) (by omega) (by omega) rfl).mpr q2), im_s, rd_kind hX a1 (by omega)]
  refine ⟨rd_of47 h1 h3 a1, by omega, q4, ?_, ?_, ?_, ?_⟩
  · rw [e, fr_ne (by omega), fr_eq]
  · rw [e, fr_eq]
  · rw [e, fr_ne (by omega), fr_ne (by omega)]; exact a6
  · rw [h2 12 (by omega) (by omega) (by omega) (by omega)]; exact a12
theorem rd_tkw_er (hX : rd_X K V b S0) (h : rd_w K b S0 i ms S) (q : ps_take K k i = .error e) : ∃ s, rd_bd b S0 e s (fo_tk k S) := by
  have h0 := h
  obtain ⟨a1, a2, a3, a4, a5, a6, a12⟩ := h
  obtain ⟨s, hs⟩ := im_any (S.1 47 11)
  unfold ps_take at q
  unfold fo_tk
  rw [a5]
  by_cases q1 : K i = k
  · rw [if_pos q1] at q ⊢
    by_cases q2 : i < 1500
    · rw [if_pos q2] at q
      rw [a4, if_pos ((mo_lt (m := 1500) (b := 1500) (by omega) (by omega) rfl).mpr q2), im_s, rd_kind hX a1 (by omega)]
      by_cases q3 : K (i + 1) = 19
      · rw [if_pos q3] at q
        cases q
        refine ⟨s, of_i (Or.inl rfl) (of_i (Or.inl rfl) a1), ?_, ⟨(show ¬(1 : Int32) = 0 by decide), (show i + 1 ≤ 1500 by omega)⟩, Or.inr ⟨?_, ?_, ?_, rfl⟩⟩
        · rw [fr_ne (by omega), fr_ne (by omega)]; exact hs
        · rw [fr_ne (by omega), fr_ne (by omega)]; exact a6
        · rw [fr_eq]; exact q3
        · rw [fr_ne (by omega), fr_eq]
      · rw [if_neg q3] at q
        cases q
    · rw [if_neg q2] at q
      cases q
      rw [if_neg (fun z => q2 (by rw [a4] at z; exact (mo_lt (m := 1500) (b := 1500) (by omega) (by omega) rfl).mp z))]
      exact rd_faultw h0 (by decide)
  · rw [if_neg q1] at q ⊢
    cases q
    unfold fo_rf
    rw [if_neg (by rw [a5]; exact a3)]
    exact rd_faultw h0 (by decide)
theorem rd_nnw_ok (hX : rd_X K V b S0) (h : rd_w K b S0 i ms S) {p q : Int32} {x y : Bool} {j : Nat} (hp : p = 0 ↔ x = false) (hq : q = 0 ↔ y = false) (r : ps_new K x y i = .ok j) : rd_w K b S0 j ms (fo_nn p q S) := by
  obtain ⟨r1, r2, r3⟩ := ps_new_ok r
  unfold fo_nn
  rw [if_pos (hp.mpr r2), if_pos (hq.mpr r3), ite_self]
  exact rd_tkw_ok hX h r1
theorem rd_nnw_er (hX : rd_X K V b S0) (h : rd_w K b S0 i ms S) {p q : Int32} {x y : Bool} (hp : p = 0 ↔ x = false) (hq : q = 0 ↔ y = false) (r : ps_new K x y i = .error e) : ∃ s, rd_bd b S0 e s (fo_nn p q S) := by
  unfold ps_new at r
  unfold fo_nn
  rw [h.2.2.2.2.1]
  by_cases hk : K i = 2
  · rw [if_pos hk]
    cases hx : x with
    | true =>
      rw [if_pos ⟨hk, hx⟩] at r
      cases r
      rw [if_neg (fun q => by have := hp.mp q; rw [hx] at this; cases this)]
      obtain ⟨s, hs⟩ := rd_faultw h (x := 3) (by decide)
      exact ⟨s, rd_bd_tk hs (by decide) (by decide)⟩
    | false =>
      rw [if_neg (fun q => by rw [hx] at q; cases q.2)] at r
      rw [if_pos (hp.mpr hx)]
      cases hy : y with
      | true =>
        rw [if_pos ⟨hk, hy⟩] at r
        cases r
        rw [if_neg (fun q => by have := hq.mp q; rw [hy] at this; cases this)]
        obtain ⟨s, hs⟩ := rd_faultw h (x := 6) (by decide)
        exact ⟨s, rd_bd_tk hs (by decide) (by decide)⟩
      | false =>
        rw [if_neg (fun q => by rw [hy] at q; cases q.2)] at r
        rw [if_pos (hq.mpr hy)]
        exact rd_tkw_er hX h r
  · rw [if_neg hk]
    rw [if_neg (fun q => hk q.1), if_neg (fun q => hk q.1)] at r
    exact rd_tkw_er hX h r
theorem rd_fun (hX : rd_X K V b S) (h : rd_w K b S i ms S) (hP : rd_P b fs c S) (hc : c ≤ i) : ∃ S', fn_Reader_takeFunction S = some S' ∧ rd_U K b S fs c ms (ps_fun K V (fs.map (fun q => q.1)) i) S' := by
  have hb := hX.1
  have hi := h.2.1
  have h48 := hP.2.1
  obtain ⟨w, w1, w2⟩ := fo_lastOf (r := 48) (x := lo_at 9 (Int32.ofNat i) S) (S := S) fs.length wd_F (by omega) (by rw [show wd_F = 1000000 from rfl]; omega)
  have w1 : fn_LongRow_lastOf 48 (lo_at 9 (Int32.ofNat i) S) (Int32.ofNat fs.length) S = some (w, S) := w1
  have hkey : ∀ j, (hj : j < fs.length) → lo_at 48 (Int32.ofNat j) S = fs[j].1 := fun j hj => by
    rw [lo_an (L := 48) rfl (by omega)]
    exact (hP.2.2.2.1 j hj).1
  obtain ⟨p, q, hp, hq, hcode⟩ : ∃ p q : Int32, (p = 0 ↔ decide (lo_at 9 (Int32.ofNat i) S ∈ fs.map (fun q => q.1)) = false) ∧ (q = 0 ↔ decide (48 ≤ (fs.map (fun q => q.1)).length) = false) ∧ fn_Reader_takeFunction S = fn_Reader_takeFunction_55 (Int32.ofNat fs.length) p q S := by
    have hq : ∃ q : Int32, (q = 0 ↔ decide (48 ≤ (fs.map (fun q => q.1)).length) = false) ∧ ∀ p, fn_Reader_takeFunction_36 (Int32.ofNat fs.length) p S = fn_Reader_takeFunction_55 (Int32.ofNat fs.length) p q S := by
      unfold fn_Reader_takeFunction_36
      rw [List.length_map]
      by_cases hm : fs.length < 48
      · exact ⟨0, ⟨fun _ => decide_eq_false (by omega), fun _ => rfl⟩, fun p => if_pos ((mo_lt (m := 48) (b := 48) (by omega) (by omega) rfl).mpr hm)⟩
      · exact ⟨1, ⟨fun q => absurd q (by decide), fun q => absurd (of_decide_eq_false q) (by omega)⟩, fun p => if_neg (fun q => hm ((mo_lt (m := 48) (b := 48) (by omega) (by omega) rfl).mp q))⟩
    obtain ⟨q, hq, hq2⟩ := hq
    unfold fn_Reader_takeFunction fn_Bodies_count
    rw [rd_r1 hX of_refl, if_pos (rd_t1 hX), wd_c_s, fo_value, wd_c_s, h.2.2.2.1, hP.1, w1, wd_c_s, hq2, hq2]
    rcases w2 with ⟨rfl, w3⟩ | ⟨j, hj, rfl, w3, w4⟩
    · refine ⟨0, q, ⟨fun _ => decide_eq_false (fun z => ?_), fun _ => rfl⟩, hq, if_pos rfl⟩
      obtain ⟨f, hf, hf2⟩ := List.mem_map.mp z
      obtain ⟨j, hj, rfl⟩ := List.getElem_of_mem hf
      exact w3 j hj (sm_eq.mpr ((hkey j hj).trans hf2))
    · refine ⟨1, q, ⟨fun z => absurd z (by decide), fun z => absurd (List.mem_map.mpr ⟨fs[j], List.getElem_mem hj, ?_⟩) (of_decide_eq_false z)⟩, hq, if_neg (fun z => ?_)⟩
      · rw [← hkey j hj]
        exact sm_eq.mp w3
      · have := congrArg Int32.toInt z
        rw [im_i (by omega)] at this
        exact absurd this (by show ¬(j : Int) = -1; omega)
  have en : ps_new K (decide (lo_at 9 (Int32.ofNat i) S ∈ fs.map (fun q => q.1))) (decide (48 ≤ (fs.map (fun q => q.1)).length)) i = ps_new K (decide (V i ∈ fs.map (fun q => q.1))) (decide (48 ≤ (fs.map (fun q => q.1)).length)) i := by
    by_cases hk : K i = 2
    · rw [rd_val hX h.1 hi (Or.inr hk)]
    · exact ps_new_ne hk
  rw [hcode, rd_55_eq]
  unfold ps_fun ps_head
  rw [← en]
  obtain ⟨f1, f2⟩ := rd_nn_out (p := p) (q := q) (S := S)
  cases q1 : ps_new K (decide (lo_at 9 (Int32.ofNat i) S ∈ fs.map (fun q => q.1))) (decide (48 ≤ (fs.map (fun q => q.1)).length)) i with
  | error e =>
    obtain ⟨s, h1⟩ := rd_nnw_er hX h hp hq q1
    obtain ⟨o3, hX3⟩ := rd_f4_s (l := Int32.ofNat fs.length) (y := lo_at 9 (S.1 47 3) S) hX h1.1
    obtain ⟨S', e1, g1, g2, g3⟩ := rd_f4_b (G := 60) hX3 (rd_f4_bs h1) (g := fs.length) (by rw [fr_ne (by omega), fr_ne (by omega), fr_q2, h1.1.1 b 3 (by unfold rd_W; omega)]; exact hP.1) (by omega)
    exact ⟨S', e1, of_trans o3 g1, g2⟩
  | ok j =>
    have h1 := rd_nnw_ok hX h hp hq q1
    obtain ⟨q2, -, qm⟩ := ps_new_ok q1
    have qm := of_decide_eq_false qm
    rw [List.length_map] at qm
    obtain ⟨t1, t2, rfl, t4⟩ := ps_take_ok q2
    obtain ⟨o3, hX3⟩ := rd_f4_s (l := Int32.ofNat fs.length) (y := lo_at 9 (S.1 47 3) S) hX h1.1
    rw [h.2.2.2.1, rd_val hX h.1 hi (Or.inr t1)] at o3 hX3 ⊢
    rw [lo_pn (L := 48) rfl (by omega)] at o3 hX3 ⊢
    generalize hS4 : wd_i (wd_i (wd_l (fo_nn p q S) (48 + 1) fs.length (V i)) 47 8 0) 47 11 0 = S4 at o3 hX3 ⊢
    have eA : ∀ a, a ≠ 47 → S4.1 a = S.1 a := fun a ha => by rw [← hS4, fr_row _ ha, fr_row _ ha, fr_l2, f1 a ha]
    have h4 : rd_h K b S4 (i + 1) 0 [] ms S4 := by
      obtain ⟨a1, a2, a3, a4, a5, a6, a12⟩ := h1
      refine ⟨of_refl, a2, a3, ?_, ?_, ?_, ?_, by decide, ?_, Nat.le_refl _, trivial, ?_⟩
      · rw [← hS4, fr_ne (by omega), fr_ne (by omega), fr_l2]; exact a4
      · rw [← hS4, fr_ne (by omega), fr_ne (by omega), fr_l2]; exact a5
      · rw [← hS4, fr_ne (by omega), fr_ne (by omega), fr_l2]; exact a6
      · rw [← hS4, fr_ne (by omega), fr_eq]; rfl
      · rw [← hS4, fr_eq]; rfl
      · rw [← hS4, fr_ne (by omega), fr_ne (by omega), fr_l2]; exact a12
    have e49 : ∀ j, S4.2.1 49 j = if j = fs.length then V i else S.2.1 49 j := fun j => by
      rw [← hS4]
      show (wd_l (fo_nn p q S) 49 fs.length (V i)).2.1 49 j = _
      rw [fr_l1, f2]
      by_cases hj : j = fs.length
      · rw [if_pos ⟨rfl, hj⟩, if_pos hj]
      · rw [if_neg (fun z => hj z.2), if_neg hj]
    obtain ⟨S', e1, g1, g2⟩ := rd_f4_g (o := i) (c := c) (fs := fs) hX3 h4 (rd_P_o (fun a y1 y2 => eA a (by omega)) (fun j hj => by rw [e49, if_neg (by omega)]) hP) (by omega) (by omega) (by rw [e49, if_pos rfl])
    exact ⟨S', e1, of_trans o3 g1, g2⟩
end Rd10
