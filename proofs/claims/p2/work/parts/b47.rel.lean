/-! The relation of both states, through what both stand for. -/
def rc_P (pg ds : pg_T) (vs : List mk_V) (S : wd_S) : Prop := (∃ b b', ((b = 11 ∧ b' = 29) ∨ (b = 29 ∧ b' = 11)) ∧ S.2.2.1 1 5 = b ∧ S.2.2.1 1 6 = b' ∧ cl_P b 1500 pg S) ∧ ∃ v v', ((v = 54 ∧ v' = 79) ∨ (v = 79 ∧ v' = 54)) ∧ S.2.2.1 1 7 = v ∧ S.2.2.1 1 8 = v' ∧ vc_P v pg ds vs S
def rc_s (T : Nat → Int32) (n : Nat) (pl : Int32) (m : Nat) (kn : Nat → Int32) (lo l : List Int32) (r : Nat → Int32) (S : wd_S) : Prop := S.1 3 = T ∧ S.1 1 1 = Int32.ofNat n ∧ S.1 1 2 = pl ∧ S.1 1 12 = Int32.ofNat m ∧ (∀ i, i < 4 → S.1 123 i = kn i) ∧ S.1 1 15 = Int32.ofNat lo.length ∧ (∀ j, (hj : j < lo.length) → S.1 127 j = lo[j]) ∧ S.1 1 18 = Int32.ofNat l.length ∧ (∀ i, (hi : i < l.length) → S.1 132 i = l[i]) ∧ ∀ i, i < 3 → S.1 134 i = r i
def rm_P (pg ds : pg_T) (vs : List mk_V) (S : wd_S) : Prop := ∃ h B, h ≤ 1 ∧ S.1 135 42 = Int32.ofNat h ∧ ((pg = [] ∧ S.1 135 41 = 0) ∨ (1 ≤ pg.length ∧ S.1 135 41 = 1 ∧ S.1 150 h = Int32.ofNat pg.length ∧ mo_P h pg S)) ∧ vm_P h B pg ds vs S
def rm_s (T : Nat → Int32) (n : Nat) (pl : Int32) (m : Nat) (kn : Nat → Int32) (lo l : List Int32) (r : Nat → Int32) (S : wd_S) : Prop := S.1 136 = T ∧ S.1 135 2 = Int32.ofNat n ∧ S.1 135 10 = pl ∧ kn_is m S ∧ (∀ i, i < 4 → S.1 174 i = kn i) ∧ S.1 135 89 = Int32.ofNat lo.length ∧ (∀ j, (hj : j < lo.length) → S.1 175 j = lo[j]) ∧ S.1 135 95 = Int32.ofNat l.length ∧ (∀ i, (hi : i < l.length) → S.1 179 i = l[i]) ∧ S.1 135 96 = r 0 ∧ S.1 135 97 = r 1 ∧ S.1 135 98 = r 2
def rl_D (pg ds : pg_T) (vs : List mk_V) (n m : Nat) (lo l : List Int32) : Prop := n ≤ 8000 ∧ m < 16 ∧ lo.length ≤ 40000 ∧ l.length ≤ 4 ∧ wf_P pg ∧ ds.length = vs.length ∧ mk_ok pg vs ∧ (pg = [] → ds = []) ∧ ∃ s : mk_S, s.1 = vs ∧ wl_D pg ds s
def RL (S : wd_S) : Prop := ∃ (pg ds : pg_T) (vs : List mk_V) (T : Nat → Int32) (n : Nat) (pl : Int32) (m : Nat) (kn : Nat → Int32) (lo l : List Int32) (r : Nat → Int32), rl_D pg ds vs n m lo l ∧ rc_P pg ds vs S ∧ rc_s T n pl m kn lo l r S ∧ rm_P pg ds vs S ∧ rm_s T n pl m kn lo l r S
section Rl
variable {pg ds : pg_T} {vs : List mk_V} {S S' : wd_S} {T : Nat → Int32} {n m : Nat} {pl : Int32} {kn : Nat → Int32} {lo l : List Int32} {r : Nat → Int32}
theorem cl_P_o {b : Nat} (hb : b = 11 ∨ b = 29) (h1 : ∀ a, 11 ≤ a → a < 47 → S'.1 a = S.1 a) (h : cl_P b 1500 pg S) : cl_P b 1500 pg S' := by
  obtain ⟨c1, c2⟩ := h
  have hr : ∀ a, b ≤ a → a ≤ b + 17 → S'.1 a = S.1 a := fun a q1 q2 => h1 a (by omega) (by omega)
  refine ⟨by rw [hr b (by omega) (by omega)]; exact c1, fun j hj => ?_⟩
  obtain ⟨a1, y, a2, a3, a4, a5⟩ := c2 j hj
  exact ⟨by rw [hr (b + 17) (by omega) (by omega)]; exact a1, y, by rw [hr (b + 15) (by omega) (by omega)]; exact a2, nd_t_g (nd_rows (fun a q1 q2 => hr a (by omega) (by omega))) _ _ _ a3, by rw [hr (b + 1 + 10) (by omega) (by omega)]; exact a4, by rw [hr (b + 1 + 12) (by omega) (by omega)]; exact a5⟩
theorem vc_P_o {v : Nat} (h1 : ∀ a, v + 2 < a → a ≤ v + 24 → S'.1 a = S.1 a) (h3 : S'.1 (v + 1) 3 = S.1 (v + 1) 3) (h : vc_P v pg ds vs S) : vc_P v pg ds vs S' := by
  obtain ⟨hv, hl, h78, ⟨c1, c2, c3⟩, hD, har⟩ := h
  refine ⟨hv, hl, h78, ⟨by rw [h3]; exact c1, c2, fun j hj => ?_⟩, fun j hj => ?_, har⟩
  · obtain ⟨a1, a2, a3, a4⟩ := c3 j hj
    exact ⟨by rw [h1 (v + 20) (by omega) (by omega)]; exact a1, by rw [h1 (v + 22) (by omega) (by omega)]; exact a2, by rw [h1 (v + 18) (by omega) (by omega)]; exact a3, fun i hi => by rw [h1 (v + 24) (by omega) (by omega)]; exact a4 i hi⟩
  · obtain ⟨y, d1, d2, d3, d4⟩ := hD j hj
    exact ⟨y, by rw [h1 (v + 16) (by omega) (by omega)]; exact d1, nd_t_g (fun x _ => ⟨by rw [h1 (v + 2 + 2) (by omega) (by omega)], by rw [h1 (v + 2 + 4) (by omega) (by omega)], by rw [h1 (v + 2 + 6) (by omega) (by omega)], by rw [h1 (v + 2 + 10) (by omega) (by omega)], by rw [h1 (v + 2 + 12) (by omega) (by omega)], fun j _ => by rw [h1 (v + 2 + 8) (by omega) (by omega)]⟩) _ _ _ d2, by rw [h1 (v + 2 + 10) (by omega) (by omega)]; exact d3, by rw [h1 (v + 2 + 12) (by omega) (by omega)]; exact d4⟩
theorem rc_P_o (h1 : ∀ a, 11 ≤ a → a < 104 → S'.1 a = S.1 a) (h2 : ∀ k, 5 ≤ k → k ≤ 8 → S'.2.2.1 1 k = S.2.2.1 1 k) (h : rc_P pg ds vs S) : rc_P pg ds vs S' := by
  obtain ⟨⟨b, b', hb, b5, b6, hP⟩, v, v', hv, v7, v8, hV⟩ := h
  exact ⟨⟨b, b', hb, by rw [h2 5 (by omega) (by omega)]; exact b5, by rw [h2 6 (by omega) (by omega)]; exact b6, cl_P_o (by omega) (fun a q1 q2 => h1 a q1 (by omega)) hP⟩, v, v', hv, by rw [h2 7 (by omega) (by omega)]; exact v7, by rw [h2 8 (by omega) (by omega)]; exact v8, vc_P_o (fun a q1 q2 => h1 a (by omega) (by omega)) (by rw [h1 (v + 1) (by omega) (by omega)]) hV⟩
theorem rc_s_o (h1 : ∀ a, a < 135 → S'.1 a = S.1 a) (h : rc_s T n pl m kn lo l r S) : rc_s T n pl m kn lo l r S' := by
  unfold rc_s at h ⊢
  rw [h1 3 (by omega), h1 1 (by omega), h1 123 (by omega), h1 127 (by omega), h1 132 (by omega), h1 134 (by omega)]
  exact h
/-- what leaves the versions of the reference -/
theorem vm_P_o {h B : Nat} (ho : ∀ a k, (a = 135 ∧ (k = 59 ∨ k = 63)) ∨ (a = 138 ∧ 48 * h ≤ k ∧ k < 48 * h + 48) ∨ (143 ≤ a ∧ a ≤ 149 ∧ 3004 ≤ k) ∨ (159 ≤ a ∧ a ≤ 164) → S'.1 a k = S.1 a k) (hP : vm_P h B pg ds vs S) : vm_P h B pg ds vs S' := by
  obtain ⟨hB, hh, h63, h59, hl, h78, hv, hD, hw⟩ := hP
  have hg : mj_g (3004 + 6002 * B) (3004 + 6002 * B + 1000) (3004 + 6002 * B) (3004 + 6002 * B + 1000) S S' := ⟨fun x x1 x2 => ⟨ho 143 x (by omega), ho 144 x (by omega), ho 145 x (by omega), ho 146 x (by omega)⟩, fun x x1 x2 => ho 149 x (by omega)⟩
  have ht : ∀ y t, mm_t B 1000 1000 96 y t S → mm_t B 1000 1000 96 y t S' := fun y t q => mj_t_m (Nat.le_refl _) (Nat.le_refl _) (Nat.le_refl _) (Nat.le_refl _) hg 96 y t q
  refine ⟨hB, hh, by rw [ho 135 63 (by omega)]; exact h63, by rw [ho 135 59 (by omega)]; exact h59, hl, h78, fun j hj => ?_, fun j hj => ?_, ?_⟩
  · obtain ⟨a0, a1, a2, a3⟩ := hv j hj
    exact ⟨a0, by rw [ho 159 _ (by omega)]; exact a1, by rw [ho 160 _ (by omega)]; exact a2, fun i hi => by rw [ho 161 _ (by omega)]; exact a3 i hi⟩
  · obtain ⟨y, d1, d2, d3, d4⟩ := hD j hj
    exact ⟨y, by rw [ho 162 _ (by omega)]; exact d1, ht _ _ d2, by rw [ho 163 _ (by omega)]; exact d3, by rw [ho 164 _ (by omega)]; exact d4⟩
  · obtain ⟨-, -, -, h4, h5⟩ := hw
    refine ⟨hB, by rw [ho 135 63 (by omega)]; exact h63, by rw [ho 135 59 (by omega)]; exact h59, h4, fun j hj => ?_⟩
    obtain ⟨a1, ⟨g, m, n, b1, b2, b3, b4, b5, b6, b7⟩, y, c1, c2⟩ := h5 j hj
    obtain ⟨a0, a1', -⟩ := hv j (by omega)
    have eg : g = 48 * h + vs[j].1 := by
      rw [a1'] at b4
      exact ((im_eq (by omega) (by omega)).mp b4).symm
    exact ⟨a1, ⟨g, m, n, b1, b2, b3, by rw [ho 159 _ (by omega)]; exact b4, by rw [ho 160 _ (by omega)]; exact b5, by rw [ho 138 g (by omega)]; exact b6, b7⟩, y, by rw [ho 162 _ (by omega)]; exact c1, ht _ _ c2⟩
theorem mo_P_o {h : Nat} (ho : ∀ a k, (138 ≤ a ∧ a ≤ 141 ∧ 48 * h ≤ k ∧ k < 48 * h + 48) ∨ (143 ≤ a ∧ a ≤ 149 ∧ 1501 * h ≤ k ∧ k < 1501 * h + 1500) → S'.1 a k = S.1 a k) (hpl : pg.length ≤ 48) (hP : mo_P h pg S) : mo_P h pg S' := fun j hj => mo_F_o (fun a a1 a2 => ho a (48 * h + j) (by omega)) ⟨fun x x1 x2 => ⟨ho 143 x (by omega), ho 144 x (by omega), ho 145 x (by omega), ho 146 x (by omega)⟩, fun x x1 x2 => ho 149 x (by omega)⟩ (Nat.le_refl _) (Nat.le_refl _) (hP j hj)
def rm_K (a k : Nat) : Prop := (a = 135 ∧ (k = 41 ∨ k = 42 ∨ k = 59 ∨ k = 63)) ∨ (138 ≤ a ∧ a ≤ 141) ∨ (143 ≤ a ∧ a ≤ 150) ∨ (159 ≤ a ∧ a ≤ 164)
theorem rm_P_o (ho : ∀ a k, rm_K a k → S'.1 a k = S.1 a k) (hpl : pg.length ≤ 48) (h : rm_P pg ds vs S) : rm_P pg ds vs S' := by
  obtain ⟨h, B, hh, h42, hp, hV⟩ := h
  refine ⟨h, B, hh, by rw [ho 135 42 (by unfold rm_K; omega)]; exact h42, ?_, vm_P_o (fun a k q => ho a k (by unfold rm_K; omega)) hV⟩
  rcases hp with ⟨p1, p2⟩ | ⟨p1, p2, p3, p4⟩
  · exact Or.inl ⟨p1, by rw [ho 135 41 (by unfold rm_K; omega)]; exact p2⟩
  · exact Or.inr ⟨p1, by rw [ho 135 41 (by unfold rm_K; omega)]; exact p2, by rw [ho 150 h (by unfold rm_K; omega)]; exact p3, mo_P_o (fun a k q => ho a k (by unfold rm_K; omega)) hpl p4⟩
theorem rm_s_o (ho : ∀ a k, (a = 135 ∧ (k = 2 ∨ k = 10 ∨ k = 89 ∨ (95 ≤ k ∧ k ≤ 98))) ∨ a = 136 ∨ a = 173 ∨ a = 174 ∨ a = 175 ∨ a = 179 → S'.1 a k = S.1 a k) (h : rm_s T n pl m kn lo l r S) : rm_s T n pl m kn lo l r S' := by
  obtain ⟨a1, a2, a3, a4, a5, a6, a7, a8, a9, a10, a11, a12⟩ := h
  exact ⟨by rw [← a1]; exact funext fun k => ho 136 k (by omega), by rw [ho 135 2 (by omega)]; exact a2, by rw [ho 135 10 (by omega)]; exact a3, fun i hi => by rw [ho 173 i (by omega)]; exact a4 i hi, fun i hi => by rw [ho 174 i (by omega)]; exact a5 i hi, by rw [ho 135 89 (by omega)]; exact a6, fun j hj => by rw [ho 175 j (by omega)]; exact a7 j hj, by rw [ho 135 95 (by omega)]; exact a8, fun i hi => by rw [ho 179 i (by omega)]; exact a9 i hi, by rw [ho 135 96 (by omega)]; exact a10, by rw [ho 135 97 (by omega)]; exact a11, by rw [ho 135 98 (by omega)]; exact a12⟩
end Rl
