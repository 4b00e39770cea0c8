/-! The calls: make. -/
section Op7
variable {S S' S1 S2 : wd_S} {p : Int32} {pg ds : pg_T} {vs : List mk_V} {T : Nat → Int32} {n m h B : Nat} {pl : Int32} {kn : Nat → Int32} {lo l : List Int32} {r : Nat → Int32}
theorem vm_P_o2 (ho : ∀ a k, (a = 135 ∧ (k = 59 ∨ k = 63)) ∨ (a = 138 ∧ 48 * h ≤ k ∧ k < 48 * h + 48) ∨ (143 ≤ a ∧ a ≤ 149 ∧ 3004 + 6002 * B ≤ k ∧ k < 3004 + 6002 * B + 1000) ∨ (159 ≤ a ∧ a ≤ 160 ∧ 80 * B ≤ k ∧ k < 80 * B + 80) ∨ (a = 161 ∧ 320 * B ≤ k ∧ k < 320 * B + 320) ∨ (162 ≤ a ∧ a ≤ 164 ∧ 80 * B ≤ k ∧ k < 80 * B + 80) → S'.1 a k = S.1 a k) (hP : vm_P h B pg ds vs S) : vm_P h B pg ds vs S' := by
  obtain ⟨hB, hh, h63, h59, hl, h78, hv, hD, hw⟩ := hP
  have hg : mj_g (3004 + 6002 * B) (3004 + 6002 * B + 1000) (3004 + 6002 * B) (3004 + 6002 * B + 1000) S S' := ⟨fun x x1 x2 => ⟨ho 143 x (by omega), ho 144 x (by omega), ho 145 x (by omega), ho 146 x (by omega)⟩, fun x x1 x2 => ho 149 x (by omega)⟩
  have ht : ∀ y t, mm_t B 1000 1000 96 y t S → mm_t B 1000 1000 96 y t S' := fun y t q => mj_t_m (Nat.le_refl _) (Nat.le_refl _) (Nat.le_refl _) (Nat.le_refl _) hg 96 y t q
  refine ⟨hB, hh, by rw [ho 135 63 (by omega)]; exact h63, by rw [ho 135 59 (by omega)]; exact h59, hl, h78, fun j hj => ?_, fun j hj => ?_, ?_⟩
  · obtain ⟨a0, a1, a2, a3⟩ := hv j hj
    exact ⟨a0, by rw [ho 159 _ (by omega)]; exact a1, by rw [ho 160 _ (by omega)]; exact a2, fun i hi => by rw [ho 161 _ (by omega)]; exact a3 i hi⟩
  · obtain ⟨y, d1, d2, d3, d4⟩ := hD j hj
    exact ⟨y, by rw [ho 162 _ (by omega)]; exact d1, ht _ _ d2, by rw [ho 163 _ (by omega)]; exact d3, by rw [ho 164 _ (by omega)]; exact d4⟩
  · obtain ⟨-, -, -, h4, h5⟩ := hw
    refine ⟨hB, by rw [ho 135 63 (by omega)]; exact h63, by rw [ho 135 59 (by omega)]; exact h59, h4, fun j hj => ?_⟩
    obtain ⟨a1, ⟨g, m, n, b1, b2, b3, b4, b5, b6, b7⟩, y, c1, c2⟩ := h5 j hj
    obtain ⟨a0, a1', -⟩ := hv j (by omega)
    have eg : g = 48 * h + vs[j].1 := by
      rw [a1'] at b4
      exact ((im_eq (by omega) (by omega)).mp b4).symm
    exact ⟨a1, ⟨g, m, n, b1, b2, b3, by rw [ho 159 _ (by omega)]; exact b4, by rw [ho 160 _ (by omega)]; exact b5, by rw [ho 138 g (by omega)]; exact b6, b7⟩, y, by rw [ho 162 _ (by omega)]; exact c1, ht _ _ c2⟩
/-- the versions that were made, in the reference -/
theorem vm_made {q : pg_T × mk_S} {mn ma : Nat} (hP : wf_P pg) (hB : B ≤ 1) (hh : h ≤ 1) (h63 : S.1 135 63 = Int32.ofNat B) (h59 : S.1 135 59 = Int32.ofNat q.2.1.length) (hv : mm_v B h pg q.2.1 S) (hD : md_D B mn ma q.1 S) (hmn : mn ≤ 1000) (hma : ma ≤ 1000) (hl : q.1.length = q.2.1.length) (hW : wl_D pg q.1 q.2) (hm : mo_P h pg S) : vm_P h B pg q.1 q.2.1 S := by
  obtain ⟨-, hok, hr⟩ := hv
  have h78 : q.2.1.length ≤ 78 := by
    have := mk_ok_len hok
    have := hP.1
    omega
  have hD2 : md_D B 1000 1000 q.1 S := fun j hj => by
    obtain ⟨y, d1, d2, d3, d4⟩ := hD j hj
    exact ⟨y, d1, mj_t_m (Nat.le_refl _) (by omega) (Nat.le_refl _) (by omega) ⟨fun _ _ _ => ⟨rfl, rfl, rfl, rfl⟩, fun _ _ _ => rfl⟩ 96 y _ d2, d3, d4⟩
  refine ⟨hB, hh, h63, by rw [h59, hl], hl, h78, fun j hj => ?_, hD2, hB, h63, by rw [h59, hl], by omega, fun j hj => ?_⟩
  · obtain ⟨a1, a2, a3⟩ := hr j hj
    have := (hok.1 q.2.1[j] (List.getElem_mem hj)).1
    have := hP.1
    exact ⟨by omega, a1, a2, a3⟩
  · have hj' : j < q.2.1.length := by omega
    obtain ⟨a1, a2, a3⟩ := hr j hj'
    obtain ⟨g1, g2⟩ := hok.1 q.2.1[j] (List.getElem_mem hj')
    obtain ⟨w1, -⟩ := hW.1 j hj
    obtain ⟨y, d1, d2, -⟩ := hD2 j hj
    have h4 := hP.2.1 q.2.1[j].1
    have h48 := hP.1
    rw [mk_ar_g hj'] at w1
    have hle := mk_lf_le q.2.1[j].2.1 (pg_n pg q.2.1[j].1)
    obtain ⟨x1, -⟩ := hm q.2.1[j].1 g1
    exact ⟨by omega, ⟨48 * h + q.2.1[j].1, q.2.1[j].2.1, pg_n pg q.2.1[j].1, by omega, h4, g2, a1, a2, by rw [x1, pg_n_g g1], w1⟩, y, d1, d2⟩
end Op7
