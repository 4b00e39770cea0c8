/-! The reader with a fault: it comes to its end. New names, names that are looked up. -/
section Rd2
variable {K : Nat → Int32} {V : Nat → Int64} {b : Nat} {S0 : wd_S} {i m : Nat} {sc : List (Int64 × Nat)} {ms : Int32} {S S' : wd_S} {e : ps_E} {s : Nat} {k : Int32} {n : Nat} {a z : Int32}
theorem rc_43 : rc_Reader_takeE (n + 1) 43 a z S = fn_Reader_takeE (rc_Reader_takeE n) a S := rfl
theorem rc_45 : rc_Reader_takeE (n + 1) 45 a z S = fn_Reader_takeLet (rc_Reader_takeE n) a S := rfl
theorem rc_48 : rc_Reader_takeE (n + 1) 48 a z S = fn_Reader_takeIf (rc_Reader_takeE n) a S := rfl
theorem rc_49 : rc_Reader_takeE (n + 1) 49 a z S = fn_Reader_takeComparison (rc_Reader_takeE n) a S := rfl
theorem rc_50 : rc_Reader_takeE (n + 1) 50 a z S = fn_Reader_takeSum (rc_Reader_takeE n) a S := rfl
theorem rc_51 : rc_Reader_takeE (n + 1) 51 a z S = fn_Reader_takeProduct (rc_Reader_takeE n) a S := rfl
theorem rc_52 : rc_Reader_takeE (n + 1) 52 a z S = fn_Reader_takeAtom (rc_Reader_takeE n) a S := rfl
theorem rc_54 : rc_Reader_takeE (n + 1) 54 a z S = fn_Reader_takeCall (rc_Reader_takeE n) a z S := rfl
theorem rd_b52 (h : rd_bd b S0 e s S) : rc_Reader_takeE (n + 1) 52 a z S = some (0, fo_rf S) := by
  rw [rc_52]
  unfold fn_Reader_takeAtom
  rw [if_neg (rd_bd_ne h (by decide) (by decide)), if_neg (rd_bd_ne h (by decide) (by decide)), if_neg (rd_bd_ne h (by decide) (by decide)), if_neg (rd_bd_ne h (by decide) (by decide)), fo_refuse, wd_d_s]
theorem rd_b51 (h : rd_bd b S0 e s S) : rc_Reader_takeE (n + 2) 51 a z S = some (0, fo_rf S) := by
  rw [rc_51]
  unfold fn_Reader_takeProduct
  rw [rd_b52 h, wd_c_s, if_neg (by rw [(rd_bd_rf h).2]; decide)]
theorem rd_b50 (h : rd_bd b S0 e s S) : rc_Reader_takeE (n + 3) 50 a z S = some (0, fo_rf S) := by
  rw [rc_50]
  unfold fn_Reader_takeSum
  rw [rd_b51 h, wd_c_s, if_neg (by rw [(rd_bd_rf h).2]; decide), if_neg (by rw [(rd_bd_rf h).2]; decide)]
theorem rd_b49 (h : rd_bd b S0 e s S) : rc_Reader_takeE (n + 4) 49 a z S = some (0, fo_rf S) := by
  rw [rc_49]
  unfold fn_Reader_takeComparison
  rw [rd_b50 h, wd_c_s, if_neg (by rw [(rd_bd_rf h).2]; decide), if_neg (by rw [(rd_bd_rf h).2]; decide)]
theorem rd_b43 (h : rd_bd b S0 e s S) : rc_Reader_takeE (n + 5) 43 a z S = some (0, fo_rf S) := by
  rw [rc_43]
  unfold fn_Reader_takeE
  split
  · rw [if_neg (rd_bd_ne h (by decide) (by decide)), if_neg (rd_bd_ne h (by decide) (by decide)), rd_b49 h, wd_c_s]
  · unfold fn_Reader_refuseWithin fn_Reader_refuseWithin_97
    rw [if_neg (rd_bd_ne h (by decide) (by decide)), if_neg (rd_bd_ne h (by decide) (by decide)), if_neg (rd_bd_ne h (by decide) (by decide)), if_neg (rd_bd_ne h (by decide) (by decide)), if_neg (rd_bd_ne h (by decide) (by decide)), if_neg (rd_bd_ne h (by decide) (by decide)), if_neg (rd_bd_ne h (by decide) (by decide)), if_neg (rd_bd_ne h (by decide) (by decide)), if_neg (rd_bd_ne h (by decide) (by decide)), if_neg (rd_bd_ne h (by decide) (by decide)), if_neg (rd_bd_ne h (by decide) (by decide)), if_neg (rd_bd_ne h (by decide) (by decide)), if_neg (rd_bd_ne h (by decide) (by decide)), if_neg (rd_bd_ne h (by decide) (by decide)), if_neg (rd_bd_ne h (by decide) (by decide)), fo_refuse, wd_d_s, wd_d_s]
/-- new names -/
def fo_nn (p q : Int32) (S : wd_S) : wd_S := fo_tk 2 (if S.1 47 4 = 2 then (if p = 0 then (if q = 0 then S else fo_fa 6 (S.1 47 3) S) else fo_fa 3 (S.1 47 3) S) else S)
theorem fo_newName {p q : Int32} : fn_Reader_takeNewName p q S = some (lo_at 9 (S.1 47 3) S, fo_nn p q S) := by
  unfold fn_Reader_takeNewName fn_Reader_takeNewName_36 fn_Reader_takeNewName_58 fo_nn
  simp only [fo_value, wd_c_s, fo_takeKind, fo_faultAt, wd_d_s]
  by_cases h : S.1 47 4 = 2
  · rw [if_pos h, if_pos h, if_pos h]
    by_cases h1 : p = 0
    · rw [if_pos h1, if_pos h1]
      by_cases h2 : q = 0
      · rw [if_pos h2, if_pos h2]
      · rw [if_neg h2, if_neg h2]
    · rw [if_neg h1, if_neg h1]
  · rw [if_neg h, if_neg h, if_neg h]
theorem rd_bd_nn {p q : Int32} (h : rd_bd b S0 e s S) : rd_bd b S0 e s (fo_nn p q S) := by
  unfold fo_nn
  rw [if_neg (rd_bd_ne h (by decide) (by decide))]
  exact rd_bd_tk h (by decide) (by decide)
theorem rd_nn_out {p q : Int32} : (∀ a, a ≠ 47 → (fo_nn p q S).1 a = S.1 a) ∧ (fo_nn p q S).2 = S.2 := by
  unfold fo_nn
  obtain ⟨h1, -, h2⟩ := rd_tk_out (k := 2) (S := if S.1 47 4 = 2 then (if p = 0 then (if q = 0 then S else fo_fa 6 (S.1 47 3) S) else fo_fa 3 (S.1 47 3) S) else S)
  obtain ⟨g1, -, g2⟩ := rd_fa_out (x := 6) (y := S.1 47 3) (S := S)
  obtain ⟨k1, -, k2⟩ := rd_fa_out (x := 3) (y := S.1 47 3) (S := S)
  refine ⟨fun a ha => ?_, ?_⟩
  · rw [h1 a ha]
    split
    · split
      · split
        · rfl
        · exact g1 a ha
      · exact k1 a ha
    · rfl
  · rw [h2]
    split
    · split
      · split
        · rfl
        · exact g2
      · exact k2
    · rfl
theorem rd_nn_ok (hX : rd_X K V b S0) (h : rd_h K b S0 i m sc ms S) {p q : Int32} {x y : Bool} {j : Nat} (hp : p = 0 ↔ x = false) (hq : q = 0 ↔ y = false) (r : ps_new K x y i = .ok j) : rd_h K b S0 j m sc ms (fo_nn p q S) := by
  obtain ⟨r1, r2, r3⟩ := ps_new_ok r
  unfold fo_nn
  rw [if_pos (hp.mpr r2), if_pos (hq.mpr r3), ite_self]
  exact rd_tk_ok hX h r1
theorem rd_nn_er (hX : rd_X K V b S0) (h : rd_h K b S0 i m sc ms S) {p q : Int32} {x y : Bool} (hp : p = 0 ↔ x = false) (hq : q = 0 ↔ y = false) (r : ps_new K x y i = .error e) : rd_bd b S0 e sc.length (fo_nn p q S) := by
  unfold ps_new at r
  unfold fo_nn
  rw [h.2.2.2.2.1]
  by_cases hk : K i = 2
  · rw [if_pos hk]
    cases hx : x with
    | true =>
      rw [if_pos ⟨hk, hx⟩] at r
      cases r
      rw [if_neg (fun q => by have := hp.mp q; rw [hx] at this; cases this)]
      exact rd_bd_tk (rd_fault h (by decide)) (by decide) (by decide)
    | false =>
      rw [if_neg (fun q => by rw [hx] at q; cases q.2)] at r
      rw [if_pos (hp.mpr hx)]
      cases hy : y with
      | true =>
        rw [if_pos ⟨hk, hy⟩] at r
        cases r
        rw [if_neg (fun q => by have := hq.mp q; rw [hy] at this; cases this)]
        exact rd_bd_tk (rd_fault h (by decide)) (by decide) (by decide)
      | false =>
        rw [if_neg (fun q => by rw [hy] at q; cases q.2)] at r
        rw [if_pos (hq.mpr hy)]
        exact rd_tk_er hX h r
  · rw [if_neg hk]
    rw [if_neg (fun q => hk q.1), if_neg (fun q => hk q.1)] at r
    exact rd_tk_er hX h r
/-- the last of a name in the scope -/
theorem rd_look {x : Int64} : ∀ (sc : List (Int64 × Nat)) (f : Nat), sc.length ≤ 16 → sc.length < f → rd_sc sc S → ∃ w, fn_LongRow_lastOf_5 f 50 x (Int32.ofNat sc.length - 1) S = some (w, S) ∧ ((ps_look x sc = none ∧ w = -1) ∨ ∃ u j, ps_look x sc = some u ∧ w = Int32.ofNat j ∧ j < 16 ∧ S.1 53 j = Int32.ofNat u ∧ u < 16) := by
  intro sc
  induction sc with
  | nil =>
    intro f _ hf _
    obtain ⟨f, rfl⟩ : ∃ g, f = g + 1 := ⟨f - 1, by omega⟩
    refine ⟨-1, ?_, Or.inl ⟨rfl, rfl⟩⟩
    rw [fn_LongRow_lastOf_5]
    exact if_pos (by decide)
  | cons q r ih =>
    intro f hl hf hs
    obtain ⟨f, rfl⟩ : ∃ g, f = g + 1 := ⟨f - 1, by omega⟩
    obtain ⟨h1, h2, h4, h3⟩ := hs
    have hl : r.length + 1 ≤ 16 := hl
    have hf : r.length + 1 < f + 1 := hf
    show ∃ w, fn_LongRow_lastOf_5 (f + 1) 50 x (Int32.ofNat (r.length + 1) - 1) S = _ ∧ _
    rw [im_p, fn_LongRow_lastOf_5, if_neg (im_neg (by omega)), lo_at_ok, wd_c_s, lo_an (L := 16) rfl (by omega), h1]
    by_cases hq : q.1 = x
    · refine ⟨Int32.ofNat r.length, if_pos (sm_eq.mpr hq), Or.inr ⟨q.2, r.length, if_pos hq, rfl, by omega, h2, h4⟩⟩
    · obtain ⟨w, w1, w2⟩ := ih f (by omega) (by omega) h3
      refine ⟨w, ?_, ?_⟩
      · rw [if_neg (fun z => hq (sm_eq.mp z)), ← Int32.sub_eq_add_neg]
        exact w1
      · rw [show ps_look x (q :: r) = ps_look x r from if_neg hq]
        exact w2
theorem fo_enter {x : Int64} {v : Int32} : fn_Reader_enter x v S = some (wd_i (ro_put 52 (S.1 47 11) v (lo_put 50 (S.1 47 11) x S)) 47 11 (S.1 47 11 + 1)) := by
  unfold fn_Reader_enter
  simp only [wd_b]
  rw [lo_put_ok, wd_d_s, fr_q2, ro_put_ok, wd_d_s]
  have e : (ro_put 52 (S.1 47 11) v (lo_put 50 (S.1 47 11) x S)).1 47 11 = S.1 47 11 := by
    rw [fr_p1, if_neg (by omega), fr_q2]
  rw [e]
theorem rd_enter (h : rd_h K b S0 i m sc ms S) {x : Int64} {u : Nat} (hl : sc.length < m) (hu : u < 16) : ∃ S', fn_Reader_enter x (Int32.ofNat u) S = some S' ∧ rd_h K b S0 i m ((x, u) :: sc) ms S' ∧ (∀ a, a ≠ 47 → a ≠ 53 → S'.1 a = S.1 a) := by
  obtain ⟨a1, a2, a3, a4, a5, a6, a7, a8, a9, a10, a11, a12⟩ := h
  rw [fo_enter, a9, lo_pn (L := 16) rfl (by omega), ro_pn (L := 16) rfl (by omega), im_s]
  refine ⟨_, rfl, ⟨of_i (Or.inl rfl) (of_i (by unfold rd_W; omega) (of_l (by unfold rd_W; omega) a1)), a2, a3, ?_, ?_, ?_, ?_, a8, fr_eq, hl, ⟨?_, ?_, hu, ?_⟩, ?_⟩, fun a h1 h2 => ?_⟩
  · rw [fr_ne (by omega), fr_ne (by omega)]; exact a4
  · rw [fr_ne (by omega), fr_ne (by omega)]; exact a5
  · rw [fr_ne (by omega), fr_ne (by omega)]; exact a6
  · rw [fr_ne (by omega), fr_ne (by omega)]; exact a7
  · show (wd_l S 51 sc.length x).2.1 51 sc.length = x
    rw [fr_l1, if_pos ⟨rfl, rfl⟩]
  · rw [fr_ne (by omega), fr_e (by omega)]
  · refine rd_sc_o sc (fun m hm => ⟨?_, ?_⟩) a11
    · show (wd_l S 51 sc.length x).2.1 51 m = _
      rw [fr_l1, if_neg (by omega)]
    · rw [fr_ne (by omega), fr_ne (by omega)]
      rfl
  · rw [fr_ne (by omega), fr_ne (by omega)]; exact a12
  · rw [fr_row _ h1, fr_row _ h2]
    rfl
theorem rd_bd_enter {x : Int64} {v : Int32} (h : rd_bd b S0 e s S) : ∃ S', fn_Reader_enter x v S = some S' ∧ rd_bd b S0 e (s + 1) S' := by
  obtain ⟨a1, a2, a3, a4⟩ := h
  refine ⟨_, fo_enter, ?_, ?_, a3, ?_⟩
  · exact of_i (Or.inl rfl) (of_put (fun k => by unfold rd_W; omega) (of_lput (fun k => by unfold rd_W; omega) a1))
  · rw [fr_eq, a2, im_s]
  · have e : ∀ n, n ≠ 11 → (wd_i (ro_put 52 (S.1 47 11) v (lo_put 50 (S.1 47 11) x S)) 47 11 (S.1 47 11 + 1)).1 47 n = S.1 47 n := fun n hn => by
      rw [fr_ne (by omega), fr_p1, if_neg (by omega), fr_q2]
    rw [e 5 (by decide), e 6 (by decide), e 4 (by decide), e 3 (by decide)]
    exact a4
end Rd2
