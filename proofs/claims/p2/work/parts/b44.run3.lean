/-! run() of the reference: program, versions. -/
section Rm2
variable {h B : Nat} {S S' : wd_S} {l : List Int32} {l1 p lim : Int32} {pg ds : pg_T}
theorem pg_n_g {f : Nat} (hf : f < pg.length) : pg_n pg f = pg[f].1 := by
  unfold pg_n
  rw [List.getD_eq_getElem?_getD, List.getElem?_eq_getElem hf]
  rfl
theorem pg_P_g {f : Nat} (hf : f < pg.length) : (pg_P pg).getD f tr_z = pg[f].2.1 := by
  unfold pg_P
  rw [List.getD_eq_getElem?_getD, List.getElem?_map, List.getElem?_eq_getElem hf]
  rfl
theorem pg_P_e {f : Nat} (hf : f < (pg_P pg).length) (hf' : f < pg.length) : (pg_P pg)[f] = pg[f].2.1 := List.getElem_map _
def rn_M (l : List Int32) (x : String ⊕ (Int32 × Int32 × Nat × Nat)) (t p lim : Int32) (S : wd_S) : Prop := match x with
    | .inl E => fn_Mo_run t p lim S = some (0, wd_i S 135 0 (mr_c E))
    | .inr r => ∃ S', fn_Mo_run t p lim S = some (r.1, S') ∧ S'.1 135 0 = 0 ∧ S'.1 135 95 = 0 ∧ S'.1 135 96 = r.2.1 ∧ S'.1 135 97 = Int32.ofNat r.2.2.1 ∧ S'.1 135 98 = Int32.ofNat r.2.2.2 ∧ of_f mr_W S S'
theorem mr_152 {l3 l5 c : Int32} (hc : 0 < c) : fn_Mo_run_152 l1 l3 l5 c S = some (0, wd_i S 135 0 c) := by
  unfold fn_Mo_run_152
  simp only [wd_b]
  rw [fr_eq, if_pos hc]
theorem mo_run_p (h41 : S.1 135 41 = 1) (hh : h ≤ 1) (h42 : S.1 135 42 = Int32.ofNat h) (h150 : S.1 150 h = Int32.ofNat pg.length) (hp1 : 1 ≤ pg.length) (hpl : pg.length ≤ 48) (hpn : ∀ f, pg_n pg f ≤ 4) (hP : mo_P h pg S) (hl4 : l.length ≤ 4) (hg : S.1 135 95 = Int32.ofNat l.length) (hl : ∀ i, (hi : i < l.length) → S.1 179 i = l[i]) (hnn : rn_ok pg l) : rn_M l (rn pg l p lim) 0 p lim S := by
  have c2 : mr_c "java/lang/IndexOutOfBoundsException" = 2 := by decide
  unfold rn_M
  rw [rn_rr, if_neg (show ¬pg.length = 0 by omega)]
  unfold fn_Mo_run
  rw [if_pos rfl, mo_isfn h41 hh h42 h150 hp1 (by omega), wd_c_s]
  by_cases h1 : p < 0 ∨ ¬p < Int32.ofNat pg.length
  · rw [if_pos h1, if_pos h1]
    dsimp only
    rw [c2]
    unfold fn_Mo_run_25 fn_Mo_run_61 fn_Mo_run_92 fn_Mo_run_117
    rw [if_pos rfl, if_pos rfl, h41, if_neg (show ¬(1 : Int32) = 0 by decide), if_pos rfl, if_pos rfl]
    exact mr_152 (by decide)
  · rw [if_neg h1, if_neg h1]
    have hp0 : ¬p < 0 := fun q => h1 (Or.inl q)
    have hpl2 : p.toNatClampNeg < pg.length := (im_ltn hp0 (by omega)).mp (Decidable.byContradiction fun q => h1 (Or.inr q))
    obtain ⟨f, hf⟩ : ∃ f, f = p.toNatClampNeg := ⟨_, rfl⟩
    have ep : p = Int32.ofNat f := by rw [hf]; exact (im_of hp0).symm
    rw [← hf] at hpl2 ⊢
    obtain ⟨a1, a2, a3, y, a4, a5⟩ := hP f hpl2
    have e48 : (48 : Int32) * Int32.ofNat h + Int32.ofNat f = Int32.ofNat (48 * h + f) := by rw [show (48 : Int32) = Int32.ofNat 48 from rfl, im_ma]
    have h4 := hpn f
    rw [pg_n_g hpl2] at h4 ⊢
    rw [pg_P_g hpl2]
    have key := mr_117 (l1 := 0) (lim := lim) (Rt := 140) (R2 := 96) (x := 48 * h + f) (y := y) (P := pg_P pg) (t := pg[f].2.1) (X := 48 * h) (lo := 1501 * h) (hi := 1501 * h + 1500) (al := 1501 * h) (ah := 1501 * h + 1500) (D0 := 96) (d := 96) (np := pg[f].1) hl4 hg hl (Or.inl ⟨rfl, rfl, by omega⟩) a4 ⟨Or.inl ⟨rfl, by omega, rfl⟩, by omega⟩ (fun j hj => by
      have hj' : j < pg.length := by rw [pg_P_l] at hj; exact hj
      obtain ⟨-, -, -, z, b4, b5⟩ := hP j hj'
      exact ⟨by omega, z, b4, by rw [pg_P_e hj hj']; exact b5⟩) a5 h4 (fun q n => by
        have := hnn f n hpl2 (by rw [pg_n_g hpl2]; exact q)
        rw [pg_P_g hpl2] at this
        exact this)
    have ecode : fn_Mo_run_25 0 p lim 1 S = fn_Mo_run_117 0 lim 1 (Int32.ofNat (48 * h + f)) (Int32.ofNat pg[f].1) S := by
      unfold fn_Mo_run_25 fn_Mo_run_61 fn_Mo_run_92
      rw [if_neg (show ¬(1 : Int32) = 0 by decide), if_pos rfl, h42, ep, e48, if_neg (show ¬(1 : Int32) = 0 by decide), if_pos rfl, if_neg (ms_in (show 48 * h + f < 96 by omega) (by decide)), im_t (show 48 * h + f < 2147483648 by omega), a1, h41, if_neg (show ¬(1 : Int32) = 0 by decide), if_pos rfl]
    rw [ecode]
    exact key
theorem mo_run_x (h41 : S.1 135 41 = 0) (h59 : S.1 135 59 = 0) : fn_Mo_run l1 p lim S = some (0, wd_i S 135 0 1) := by
  have hin : fn_Mo_within p.toInt64 0 (((0 : Int32) - 1).toInt64) S = some (0, S) := by
    have := sm_in (p := p) (S := S) 0 (0 - 1)
    have e : (if p < 0 ∨ (0 : Int32) - 1 < p then (0 : Int32) else 1) = 0 := by
      refine if_pos ?_
      by_cases q : p < 0
      · exact Or.inl q
      · refine Or.inr ?_
        rw [← im_of q]
        have e1 : (0 : Int32) - 1 = -1 := by decide
        rw [e1, Int32.lt_iff_toInt_lt, im_i (im_tl p)]
        show (-1 : Int) < _
        omega
    rw [e] at this
    exact this
  have e25 : fn_Mo_run_25 l1 p lim 0 S = some (0, wd_i S 135 0 1) := by
    unfold fn_Mo_run_25 fn_Mo_run_61 fn_Mo_run_92 fn_Mo_run_113
    rw [if_pos rfl, if_pos rfl, h41, if_pos rfl]
    exact mr_152 (by decide)
  unfold fn_Mo_run
  split
  · unfold fn_Mo_isFn fn_Mo_isFn_32 fn_Mo_isFn_33
    rw [h41, if_pos rfl, if_pos fo_b0, wd_c_s]
    exact e25
  · rw [h59, hin, wd_c_s]
    exact e25
theorem mo_run_v0 (h41 : S.1 135 41 = 1) (h59 : S.1 135 59 = 0) (hl1 : ¬l1 = 0) : fn_Mo_run l1 p lim S = some (0, wd_i S 135 0 1) := by
  have hin : fn_Mo_within p.toInt64 0 (((0 : Int32) - 1).toInt64) S = some (0, S) := by
    have := sm_in (p := p) (S := S) 0 (0 - 1)
    have e : (if p < 0 ∨ (0 : Int32) - 1 < p then (0 : Int32) else 1) = 0 := by
      refine if_pos ?_
      by_cases q : p < 0
      · exact Or.inl q
      · refine Or.inr ?_
        rw [← im_of q]
        have e1 : (0 : Int32) - 1 = -1 := by decide
        rw [e1, Int32.lt_iff_toInt_lt, im_i (im_tl p)]
        show (-1 : Int) < _
        omega
    rw [e] at this
    exact this
  unfold fn_Mo_run
  rw [if_neg hl1, h59, hin, wd_c_s]
  unfold fn_Mo_run_25 fn_Mo_run_61 fn_Mo_run_92 fn_Mo_run_113
  rw [if_pos rfl, if_pos rfl, h41, if_neg (show ¬(1 : Int32) = 0 by decide), if_neg hl1, h59, if_pos rfl]
  exact mr_152 (by decide)
theorem mo_run_v (h41 : S.1 135 41 = 1) (hd1 : 1 ≤ ds.length) (hP : pw_P B ds S) (hl1 : ¬l1 = 0) (hl4 : l.length ≤ 4) (hg : S.1 135 95 = Int32.ofNat l.length) (hl : ∀ i, (hi : i < l.length) → S.1 179 i = l[i]) (hnn : rn_ok ds l) : rn_M l (rn ds l p lim) l1 p lim S := by
  have c2 : mr_c "java/lang/IndexOutOfBoundsException" = 2 := by decide
  obtain ⟨hB, h63, h59, hd, hv⟩ := hP
  have hin : fn_Mo_within p.toInt64 0 ((Int32.ofNat ds.length - 1).toInt64) S = some (if p < 0 ∨ ¬p < Int32.ofNat ds.length then 0 else 1, S) := by
    have := sm_in (p := p) (S := S) 0 (Int32.ofNat ds.length - 1)
    have e : (p < 0 ∨ Int32.ofNat ds.length - 1 < p) ↔ (p < 0 ∨ ¬p < Int32.ofNat ds.length) := by
      by_cases q : p < 0
      · exact ⟨fun _ => Or.inl q, fun _ => Or.inl q⟩
      · obtain ⟨n, hn⟩ : ∃ n, ds.length = n + 1 := ⟨ds.length - 1, by omega⟩
        rw [hn, im_p, ← im_of q]
        have ht := im_tl p
        constructor
        · intro z
          refine z.elim Or.inl (fun z => Or.inr (fun w => ?_))
          have := (im_lt (by omega) ht).mp z
          have := (im_lt ht (by omega)).mp w
          omega
        · intro z
          refine z.elim Or.inl (fun z => Or.inr ((im_lt (by omega) ht).mpr ?_))
          have : ¬p.toNatClampNeg < n + 1 := fun w => z ((im_lt ht (by omega)).mpr w)
          omega
    have e2 : (if p < 0 ∨ Int32.ofNat ds.length - 1 < p then (0 : Int32) else 1) = if p < 0 ∨ ¬p < Int32.ofNat ds.length then 0 else 1 := by
      by_cases q : p < 0 ∨ ¬p < Int32.ofNat ds.length
      · rw [if_pos q, if_pos (e.mpr q)]
      · rw [if_neg q, if_neg (fun z => q (e.mp z))]
    rw [e2] at this
    exact this
  have n59 : ¬Int32.ofNat ds.length = 0 := fun q => by
    have := (im_eq (m := ds.length) (n := 0) (by omega) (by omega)).mp q
    omega
  unfold rn_M
  rw [rn_rr, if_neg (show ¬ds.length = 0 by omega)]
  unfold fn_Mo_run
  rw [if_neg hl1, h59, hin, wd_c_s]
  by_cases h1 : p < 0 ∨ ¬p < Int32.ofNat ds.length
  · rw [if_pos h1, if_pos h1]
    dsimp only
    rw [c2]
    unfold fn_Mo_run_25 fn_Mo_run_61 fn_Mo_run_92 fn_Mo_run_117
    rw [if_pos rfl, if_pos rfl, h41, if_neg (show ¬(1 : Int32) = 0 by decide), if_neg hl1, h59, if_neg n59, if_pos rfl]
    exact mr_152 (by decide)
  · rw [if_neg h1, if_neg h1]
    have hp0 : ¬p < 0 := fun q => h1 (Or.inl q)
    have hpl2 : p.toNatClampNeg < ds.length := (im_ltn hp0 (by omega)).mp (Decidable.byContradiction fun q => h1 (Or.inr q))
    obtain ⟨f, hf⟩ : ∃ f, f = p.toNatClampNeg := ⟨_, rfl⟩
    have ep : p = Int32.ofNat f := by rw [hf]; exact (im_of hp0).symm
    rw [← hf] at hpl2 ⊢
    obtain ⟨a1, ⟨g, m, np, b1, b2, b3, b4, b5, b6, b7⟩, y, c1, c2⟩ := hv f hpl2
    have e80 : (80 : Int32) * Int32.ofNat B + Int32.ofNat f = Int32.ofNat (80 * B + f) := by rw [show (80 : Int32) = Int32.ofNat 80 from rfl, im_ma]
    rw [pg_n_g hpl2, pg_P_g hpl2]
    have key := mr_117 (l1 := l1) (lim := lim) (Rt := 162) (R2 := 160) (x := 80 * B + f) (y := y) (P := pg_P ds) (t := ds[f].2.1) (X := 80 * B) (lo := 3004 + 6002 * B) (hi := 3004 + 6002 * B + 1000) (al := 3004 + 6002 * B) (ah := 3004 + 6002 * B + 1000) (D0 := 96) (d := 96) (np := ds[f].1) hl4 hg hl (Or.inr ⟨hl1, rfl, by omega⟩) c1 ⟨Or.inr ⟨rfl, by omega, by omega, rfl⟩, by omega⟩ (fun j hj => by
      have hj' : j < ds.length := by rw [pg_P_l] at hj; exact hj
      obtain ⟨-, -, z, d1, d2⟩ := hv j hj'
      exact ⟨by omega, z, d1, by rw [pg_P_e hj hj']; exact d2⟩) c2 a1 (fun q n => by
        have := hnn f n hpl2 (by rw [pg_n_g hpl2]; exact q)
        rw [pg_P_g hpl2] at this
        exact this)
    have ecode : fn_Mo_run_25 l1 p lim 1 S = fn_Mo_run_117 l1 lim 1 (Int32.ofNat (80 * B + f)) (Int32.ofNat ds[f].1) S := by
      unfold fn_Mo_run_25 fn_Mo_run_61 fn_Mo_run_92
      rw [if_neg (show ¬(1 : Int32) = 0 by decide), if_neg hl1, h63, ep, e80, if_neg (show ¬(1 : Int32) = 0 by decide), if_neg hl1, mo_left (show 80 * B + f < 160 by omega) b1 b4 b5 b6 b2 b3, wd_c_s, ← b7, h41, if_neg (show ¬(1 : Int32) = 0 by decide), if_neg hl1, h59, if_neg n59]
    rw [ecode]
    exact key
end Rm2
