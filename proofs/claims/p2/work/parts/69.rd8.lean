/-! Params and functions of the class's reader. -/
def rf_W (b a _k : Nat) : Prop := a = 47 ∨ a = 49 ∨ a = 51 ∨ a = 53 ∨ (b ≤ a ∧ a < b + 18)
def rd_P (b : Nat) (fs : List ps_F) (c : Nat) (S : wd_S) : Prop := S.1 b 3 = Int32.ofNat fs.length ∧ fs.length ≤ 48 ∧ S.1 (b + 1) 6 = Int32.ofNat c ∧ (∀ j, (hj : j < fs.length) → S.2.1 49 j = fs[j].1 ∧ S.1 (b + 17) j = Int32.ofNat fs[j].2.1 ∧ ∃ y, S.1 (b + 15) j = Int32.ofNat y ∧ nd_t (b + 1) S 0 c 96 y fs[j].2.2.1 ∧ S.1 (b + 1 + 10) y = Int32.ofNat fs[j].2.2.2.2.1 ∧ S.1 (b + 1 + 12) y = Int32.ofNat (fs[j].2.2.2.2.2 - fs[j].2.1)) ∧ nd_c (b + 1) S c 0 = ps_cl (fs.flatMap (fun q => q.2.2.2.1))
section Rd8
variable {K : Nat → Int32} {V : Nat → Int64} {b : Nat} {S0 : wd_S} {i m : Nat} {sc : List (Int64 × Nat)} {ms : Int32} {S S' S1 : wd_S} {e : ps_E} {s : Nat} {k : Int32} {n c d : Nat} {a z u v : Int32} {self : ps_P} {x : Int64} {fs : List ps_F}
theorem rd_X_o (hX : rd_X K V b S) (ho : of_f (rf_W b) S S') : rd_X K V b S' := by
  obtain ⟨hb, h1, h2, h3, h4⟩ := hX
  have e1 : S'.1 4 5 = S.1 4 5 := ho.1 4 5 (by unfold rf_W; omega)
  have e2 : S'.1 6 = S.1 6 := funext (fun m => ho.1 6 m (by unfold rf_W; omega))
  have e3 : S'.2.1 10 = S.2.1 10 := funext (fun m => ho.2.1 10 m (by unfold rf_W; omega))
  refine ⟨hb, ?_, ?_, fun i hi => ?_, fun i hi hk => ?_⟩
  · rw [ho.2.2]; exact h1
  · rw [ho.2.2]; exact h2
  · rw [e1, fr_at 5 _ e2]; exact h3 i hi
  · rw [fr_lat 9 _ e3]; exact h4 i hi hk
theorem rf_of (h : of_f (rd_W b) S S') : of_f (rf_W b) S S' := of_mono (fun a k q => by unfold rd_W at q; unfold rf_W; omega) h
theorem rd_rb (h : rd_h K b S0 i m sc ms S) : rd_h K b S i m sc ms S := ⟨of_refl, h.2⟩
theorem rd_bb (h : rd_bd b S0 e s S) : rd_bd b S e s S := ⟨of_refl, h.2⟩
theorem rd_P_o (h1 : ∀ a, b ≤ a → a < b + 18 → S'.1 a = S.1 a) (h2 : ∀ j, j < fs.length → S'.2.1 49 j = S.2.1 49 j) (h : rd_P b fs c S) : rd_P b fs c S' := by
  obtain ⟨p1, p2, p3, p4, p5⟩ := h
  have hg : ∀ p : Nat → Prop, nd_g (b + 1) p S S' := fun p => nd_rows (fun a y1 y2 => h1 a (by omega) (by omega))
  refine ⟨?_, p2, ?_, fun j hj => ?_, ?_⟩
  · rw [h1 b (by omega) (by omega)]; exact p1
  · rw [h1 (b + 1) (by omega) (by omega)]; exact p3
  · obtain ⟨q1, q2, y, q3, q4, q5, q6⟩ := p4 j hj
    rw [h2 j hj, h1 (b + 17) (by omega) (by omega), h1 (b + 15) (by omega) (by omega), h1 (b + 1 + 10) (by omega) (by omega), h1 (b + 1 + 12) (by omega) (by omega)]
    exact ⟨q1, q2, y, q3, nd_t_g (hg _) _ _ _ q4, q5, q6⟩
  · rw [nd_c_g _ _ (hg _)]; exact p5
theorem ps_new_ne {x y x' : Bool} (hk : ¬K i = 2) : ps_new K x y i = ps_new K x' y i := by
  unfold ps_new
  rw [if_neg (fun q => hk q.1), if_neg (fun q => hk q.1), if_neg (fun q => hk q.1)]
/-- a param -/
theorem rd_enterP (h : rd_h K b S0 i m sc ms S) {x : Int64} (hl : sc.length = m) (hm : m < 16) : ∃ S', fn_Reader_enter x (Int32.ofNat m) S = some S' ∧ rd_h K b S0 i (m + 1) ((x, m) :: sc) ms (wd_i S' 47 8 (S'.1 47 8 + 1)) ∧ (∀ a, a ≠ 47 → a ≠ 53 → S'.1 a = S.1 a) ∧ (∀ a, a ≠ 51 → S'.2.1 a = S.2.1 a) := by
  obtain ⟨a1, a2, a3, a4, a5, a6, a7, a8, a9, a10, a11, a12⟩ := h
  rw [fo_enter, a9, lo_pn (L := 16) rfl (by omega), ro_pn (L := 16) rfl (by omega), im_s]
  refine ⟨_, rfl, ⟨of_i (Or.inl rfl) (of_i (Or.inl rfl) (of_i (by unfold rd_W; omega) (of_l (by unfold rd_W; omega) a1))), a2, a3, ?_, ?_, ?_, ?_, by omega, ?_, by show sc.length + 1 ≤ m + 1; omega, ⟨?_, ?_, hm, ?_⟩, ?_⟩, fun a h1 h2 => ?_, fun a h1 => ?_⟩
  · rw [fr_ne (by omega), fr_ne (by omega), fr_ne (by omega)]; exact a4
  · rw [fr_ne (by omega), fr_ne (by omega), fr_ne (by omega)]; exact a5
  · rw [fr_ne (by omega), fr_ne (by omega), fr_ne (by omega)]; exact a6
  · rw [fr_eq, fr_ne (by omega), fr_ne (by omega)]
    show S.1 47 8 + 1 = _
    rw [a7, im_s]
  · rw [fr_ne (by omega), fr_eq]
    rfl
  · show (wd_l S 51 sc.length x).2.1 51 sc.length = x
    rw [fr_l1, if_pos ⟨rfl, rfl⟩]
  · rw [fr_ne (by omega), fr_ne (by omega), fr_e (by omega)]
  · refine rd_sc_o (S := S) sc (fun m hm => ⟨?_, ?_⟩) a11
    · show (wd_l S 51 sc.length x).2.1 51 m = _
      rw [fr_l1, if_neg (by omega)]
    · rw [fr_ne (by omega), fr_ne (by omega), fr_ne (by omega)]
      rfl
  · rw [fr_ne (by omega), fr_ne (by omega), fr_ne (by omega)]; exact a12
  · rw [fr_row _ h1, fr_row _ h2]
    rfl
  · funext m'
    show (wd_l S 51 sc.length x).2.1 a m' = _
    rw [fr_l1, if_neg (fun q => h1 q.1)]
theorem rd_p47_b {p q : Int32} (h : rd_bd b S0 e s S) : ∃ S', fn_Reader_takeParam_47 p q S = some S' ∧ rd_bd b S0 e (s + 1) S' := by
  unfold fn_Reader_takeParam_47
  rw [fo_newName, wd_c_s]
  obtain ⟨S2, e2, h2⟩ := rd_bd_enter (x := lo_at 9 (S.1 47 3) S) (v := (fo_nn p q S).1 47 8) (rd_bd_nn (p := p) (q := q) h)
  rw [e2, wd_d_s]
  exact ⟨_, rfl, rd_bd_i (by decide) h2⟩
theorem rd_par_b (h : rd_bd b S0 e s S) (hs : s ≤ 1000) : ∃ S', fn_Reader_takeParam S = some S' ∧ rd_bd b S0 e (s + 1) S' := by
  obtain ⟨w, w1, -⟩ := fo_lastOf (r := 50) (x := lo_at 9 (S.1 47 3) S) (S := S) s wd_F (by omega) (by rw [show wd_F = 1000000 from rfl]; omega)
  have w1 : fn_LongRow_lastOf 50 (lo_at 9 (S.1 47 3) S) (Int32.ofNat s) S = some (w, S) := w1
  unfold fn_Reader_takeParam fn_Reader_takeParam_31
  rw [fo_value, wd_c_s, h.2.1, w1, wd_c_s]
  split
  · split
    · exact rd_p47_b h
    · exact rd_p47_b h
  · split
    · exact rd_p47_b h
    · exact rd_p47_b h
def rd_Q (K : Nat → Int32) (b : Nat) (S0 : wd_S) (ms : Int32) (S : wd_S) (r : Except ps_E (List (Int64 × Nat) × Nat)) (S' : wd_S) : Prop := match r with
  | .error e => ∃ s, s ≤ 20 ∧ rd_bd b S0 e s S'
  | .ok q => rd_h K b S0 q.2 q.1.length q.1 ms S' ∧ (∀ a, a ≠ 47 → a ≠ 53 → S'.1 a = S.1 a) ∧ (∀ a, a ≠ 51 → S'.2.1 a = S.2.1 a)
theorem rd_param (hX : rd_X K V b S0) (h : rd_h K b S0 i m sc ms S) (hl : sc.length = m) (hm : m ≤ 4) : ∃ S', fn_Reader_takeParam S = some S' ∧ rd_Q K b S0 ms S (ps_par K V sc i) S' := by
  have hi := h.2.1
  obtain ⟨w, w1, w2⟩ := rd_look (S := S) (x := lo_at 9 (Int32.ofNat i) S) sc wd_F (by omega) (by rw [show wd_F = 1000000 from rfl]; omega) h.2.2.2.2.2.2.2.2.2.2.1
  have w1 : fn_LongRow_lastOf 50 (lo_at 9 (Int32.ofNat i) S) (Int32.ofNat sc.length) S = some (w, S) := w1
  obtain ⟨p, q, hp, hq, hc⟩ : ∃ p q : Int32, (p = 0 ↔ (ps_look (lo_at 9 (Int32.ofNat i) S) sc).isSome = false) ∧ (q = 0 ↔ decide (4 ≤ sc.length) = false) ∧ fn_Reader_takeParam S = fn_Reader_takeParam_47 p q S := by
    have hq : ∃ q : Int32, (q = 0 ↔ decide (4 ≤ sc.length) = false) ∧ ∀ p, fn_Reader_takeParam_31 p S = fn_Reader_takeParam_47 p q S := by
      unfold fn_Reader_takeParam_31
      rw [h.2.2.2.2.2.2.1]
      by_cases hm4 : m < 4
      · exact ⟨0, ⟨fun _ => decide_eq_false (by omega), fun _ => rfl⟩, fun p => if_pos ((mo_lt (m := 4) (b := 4) (by omega) (by omega) rfl).mpr hm4)⟩
      · exact ⟨1, ⟨fun q => absurd q (by decide), fun q => absurd (of_decide_eq_false q) (by omega)⟩, fun p => if_neg (fun q => hm4 ((mo_lt (m := 4) (b := 4) (by omega) (by omega) rfl).mp q))⟩
    obtain ⟨q, hq, hq2⟩ := hq
    unfold fn_Reader_takeParam
    rw [fo_value, wd_c_s, h.2.2.2.1, h.2.2.2.2.2.2.2.2.1, w1, wd_c_s, hq2, hq2]
    rcases w2 with ⟨p1, rfl⟩ | ⟨u, j, p1, rfl, hj, -⟩
    · rw [p1]
      exact ⟨0, q, ⟨fun _ => rfl, fun _ => rfl⟩, hq, if_pos rfl⟩
    · rw [p1]
      refine ⟨1, q, ⟨fun z => absurd z (by decide), fun z => by cases z⟩, hq, if_neg (fun z => ?_)⟩
      have := congrArg Int32.toInt z
      rw [im_i (by omega)] at this
      exact absurd this (by show ¬(j : Int) = -1; omega)
  have en : ps_new K (ps_look (lo_at 9 (Int32.ofNat i) S) sc).isSome (decide (4 ≤ sc.length)) i = ps_new K (ps_look (V i) sc).isSome (decide (4 ≤ sc.length)) i := by
    by_cases hk : K i = 2
    · rw [rd_val hX h.1 hi (Or.inr hk)]
    · exact ps_new_ne hk
  rw [hc]
  unfold fn_Reader_takeParam_47 ps_par
  rw [fo_newName, wd_c_s, ← en]
  obtain ⟨f1, f2⟩ := rd_nn_out (p := p) (q := q) (S := S)
  cases q1 : ps_new K (ps_look (lo_at 9 (Int32.ofNat i) S) sc).isSome (decide (4 ≤ sc.length)) i with
  | error e =>
    have h1 := rd_nn_er hX h hp hq q1
    obtain ⟨S2, e2, h2⟩ := rd_bd_enter (x := lo_at 9 (S.1 47 3) S) (v := (fo_nn p q S).1 47 8) h1
    rw [e2, wd_d_s]
    exact ⟨_, rfl, sc.length + 1, by omega, rd_bd_i (by decide) h2⟩
  | ok j =>
    have h1 := rd_nn_ok hX h hp hq q1
    obtain ⟨q2, -, qm⟩ := ps_new_ok q1
    have qm := of_decide_eq_false qm
    obtain ⟨t1, t2, rfl, t4⟩ := ps_take_ok q2
    rw [h1.2.2.2.2.2.2.1, h.2.2.2.1, rd_val hX h.1 hi (Or.inr t1)]
    obtain ⟨S2, e2, h2, f3, f4⟩ := rd_enterP (x := V i) h1 hl (by omega)
    rw [e2, wd_d_s]
    refine ⟨_, rfl, ?_, fun a y1 y2 => ?_, fun a y1 => ?_⟩
    · show rd_h K b S0 (i + 1) (sc.length + 1) ((V i, sc.length) :: sc) ms _
      rw [hl]
      exact h2
    · show (wd_i S2 47 8 _).1 a = _
      rw [fr_row _ y1, f3 a y1 y2, f1 a y1]
    · show S2.2.1 a = _
      rw [f4 a y1, f2]
theorem rd_92_b {f : Nat} {l : Int32} (h : rd_bd b S0 e s S) : fn_Reader_takeFunction_92 (f + 1) l S = fn_Reader_takeFunction_124 S := by
  rw [fn_Reader_takeFunction_92]
  split
  · rw [if_neg (rd_bd_ne h (by decide) (by decide))]
  · rfl
theorem rd_pars (hX : rd_X K V b S0) : ∀ (f F i : Nat) (sc : List (Int64 × Nat)) (l : Nat) (S : wd_S), l + f = 1500 → f < F → rd_h K b S0 i sc.length sc ms S → sc.length ≤ 4 → ∃ S', fn_Reader_takeFunction_92 F (Int32.ofNat l) S = fn_Reader_takeFunction_124 S' ∧ rd_Q K b S0 ms S (ps_pars K V f sc i) S' := by
  intro f
  induction f with
  | zero =>
    intro F i sc l S hl hF h h4
    obtain ⟨F, rfl⟩ : ∃ g, F = g + 1 := ⟨F - 1, by omega⟩
    rw [fn_Reader_takeFunction_92, if_neg (fun q => by have := (mo_lt (m := 1500) (b := 1500) (by omega) (by omega) rfl).mp q; omega)]
    exact ⟨S, rfl, h, fun _ _ _ => rfl, fun _ _ => rfl⟩
  | succ f ih =>
    intro F i sc l S hl hF h h4
    obtain ⟨F, rfl⟩ : ∃ g, F = g + 1 := ⟨F - 1, by omega⟩
    rw [fn_Reader_takeFunction_92, if_pos ((mo_lt (m := 1500) (b := 1500) (by omega) (by omega) rfl).mpr (by omega)), h.2.2.2.2.1]
    unfold ps_pars
    by_cases hk : K i = 17
    · rw [if_pos hk, if_pos hk, fo_takeKind, wd_d_s]
      obtain ⟨f1, -, f2⟩ := rd_tk_out (k := 17) (S := S)
      cases q1 : ps_take K 17 i with
      | error e =>
        have h1 := rd_tk_er hX h q1
        obtain ⟨S2, e2, h2⟩ := rd_par_b h1 (by omega)
        obtain ⟨F, rfl⟩ : ∃ g, F = g + 1 := ⟨F - 1, by omega⟩
        rw [e2, wd_d_s, rd_92_b h2]
        exact ⟨S2, rfl, sc.length + 1, by omega, h2⟩
      | ok i1 =>
        obtain ⟨t1, t2, rfl, t4⟩ := ps_take_ok q1
        have h1 := rd_tk_ok hX h q1
        obtain ⟨S2, e2, r2⟩ := rd_param hX h1 rfl h4
        rw [e2, wd_d_s, im_s]
        show ∃ S', _ ∧ rd_Q K b S0 ms S (ps_b (ps_par K V sc (i + 1)) _) S'
        cases q2 : ps_par K V sc (i + 1) with
        | error e =>
          rw [q2] at r2
          obtain ⟨s, hs, r2⟩ := r2
          obtain ⟨F, rfl⟩ : ∃ g, F = g + 1 := ⟨F - 1, by omega⟩
          rw [rd_92_b r2]
          exact ⟨S2, rfl, s, hs, r2⟩
        | ok q =>
          rw [q2] at r2
          obtain ⟨h2, g1, g2⟩ := r2
          obtain ⟨p1, p2, rfl, p4, p5, p6⟩ := ps_par_ok q2
          obtain ⟨S3, e3, r3⟩ := ih F (i + 1 + 1) ((V (i + 1), sc.length) :: sc) (l + 1) S2 (by omega) (by omega) h2 (by show sc.length + 1 ≤ 4; omega)
          refine ⟨S3, e3, ?_⟩
          show rd_Q K b S0 ms S (ps_pars K V f ((V (i + 1), sc.length) :: sc) (i + 1 + 1)) S3
          cases q3 : ps_pars K V f ((V (i + 1), sc.length) :: sc) (i + 1 + 1) with
          | error e =>
            rw [q3] at r3
            exact r3
          | ok w =>
            rw [q3] at r3
            obtain ⟨h3, g3, g4⟩ := r3
            exact ⟨h3, fun a y1 y2 => by rw [g3 a y1 y2, g1 a y1 y2, f1 a y1], fun a y1 => by rw [g4 a y1, g2 a y1, f2]⟩
    · rw [if_neg hk, if_neg hk]
      exact ⟨S, rfl, h, fun _ _ _ => rfl, fun _ _ => rfl⟩
end Rd8
