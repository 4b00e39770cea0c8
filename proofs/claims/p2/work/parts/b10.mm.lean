/-! How much is gone through; the reference's maker: its state, its stacks. -/
theorem mk_kp_sz : ∀ l : List mk_R, mk_sz (mk_kp l) ≤ mk_sz l := by
  intro l
  induction l with
  | nil => exact Nat.le_refl _
  | cons a l ih =>
    by_cases e : tr_k a.1 = 1
    · have ek : mk_kp (a :: l) = mk_kp l := List.filter_cons_of_neg (by rw [decide_eq_true_iff]; exact fun q => q e)
      rw [ek]
      show _ ≤ a.2.1 + mk_sz l
      omega
    · have ek : mk_kp (a :: l) = a :: mk_kp l := List.filter_cons_of_pos (decide_eq_true e)
      rw [ek]
      show a.2.1 + mk_sz (mk_kp l) ≤ a.2.1 + mk_sz l
      omega
def mk_nn (R : mk_R) : Prop := tr_k R.1 = 1 → R.2 = (1, 0)
theorem mk_ld_sz {f m : Nat} {kn : Nat → Int32} {as : List mk_R} {vs : List mk_V} : mk_sz (mk_ld f m kn as vs).2.1 ≤ mk_sz as := by
  unfold mk_ld
  split
  · exact mk_kp_sz _
  · split
    · exact mk_kp_sz _
    · split
      · exact Nat.le_refl _
      · exact Nat.le_refl _
theorem mk_call_sz {P : List tr_T} {f : Nat} {as : List mk_R} {s : mk_S} {w : mk_R × mk_S} (h : mk_call P f as s = .ok w) : w.2.2.1 = s.2.1 ∧ w.1.2.1 ≤ 1 + mk_sz as ∧ 1 ≤ w.1.2.1 ∧ mk_nn w.1 := by
  have hl : ∀ s' : mk_S, ((mk_go f as s').1).2.1 ≤ 1 + mk_sz as ∧ 1 ≤ ((mk_go f as s').1).2.1 ∧ mk_nn (mk_go f as s').1 := fun s' => ⟨Nat.add_le_add_left mk_ld_sz 1, Nat.le_add_right 1 _, fun q => absurd q (show ¬(5 : Int32) = 1 by decide)⟩
  unfold mk_call at h
  split at h
  · split at h
    · cases h; exact ⟨rfl, Nat.le_add_right _ _, Nat.le_refl _, fun _ => rfl⟩
    · cases h
    · cases h; exact ⟨rfl, hl _⟩
  · cases h; exact ⟨rfl, hl _⟩
theorem mk_args_sz {self : mk_P} (hs : ∀ N s t q, self N s t = .ok q → s.2.1 + q.1.2.1 ≤ q.2.2.2.1 ∧ (s.2.1 ≤ 1000 → q.2.2.2.1 ≤ 1000) ∧ 1 ≤ q.1.2.1 ∧ mk_nn q.1) {t : tr_T} : ∀ (r j : Nat) (N : mk_N) (s : mk_S) (q : List mk_R × mk_N × mk_S), mk_args self t r j N s = .ok q → s.2.1 + mk_sz q.1 ≤ q.2.2.2.1 ∧ (s.2.1 ≤ 1000 → q.2.2.2.1 ≤ 1000) := by
  intro r
  induction r with
  | zero => intro j N s q h; cases h; exact ⟨Nat.le_refl _, id⟩
  | succ r ih =>
    intro j N s q h
    obtain ⟨a, h1, h2⟩ := mk_b_ok h
    obtain ⟨w, h3, h4⟩ := mk_b_ok h2
    cases h4
    obtain ⟨a1, a2, -⟩ := hs _ _ _ _ h1
    obtain ⟨b1, b2⟩ := ih _ _ _ _ h3
    refine ⟨?_, fun z => b2 (a2 z)⟩
    show s.2.1 + (a.1.2.1 + mk_sz w.1) ≤ w.2.2.2.1
    omega
theorem mk_gs {pg : pg_T} : ∀ (r : Nat) (N : mk_N) (s : mk_S) (t : tr_T) (q : mk_O), mk pg r N s t = .ok q → s.2.1 + q.1.2.1 ≤ q.2.2.2.1 ∧ (s.2.1 ≤ 1000 → q.2.2.2.1 ≤ 1000) ∧ 1 ≤ q.1.2.1 ∧ mk_nn q.1 := by
  intro r
  induction r with
  | zero => intro N s t q h; cases h
  | succ r ih =>
    intro N s t q h
    unfold mk at h
    split at h
    · cases h
    · next hg =>
      unfold mk_in at h
      split at h
      · split at h
        · cases h; exact ⟨Nat.le_refl _, fun _ => by show s.2.1 + 1 ≤ 1000; omega, Nat.le_refl _, fun _ => rfl⟩
        · split at h
          · split at h
            · next w _ =>
              cases h
              unfold mk_name
              split
              · exact ⟨Nat.le_refl _, fun _ => by show s.2.1 + 1 ≤ 1000; omega, Nat.le_refl _, fun _ => rfl⟩
              · exact ⟨Nat.le_refl _, fun _ => by show s.2.1 + 1 ≤ 1000; omega, Nat.le_refl _, fun _ => rfl⟩
            · cases h
          · split at h
            · obtain ⟨a, h1, h2⟩ := mk_b_ok h
              obtain ⟨a1, a2, a3, a4⟩ := ih _ _ _ _ h1
              have a1 : s.2.1 + 1 + a.1.2.1 ≤ a.2.2.2.1 := a1
              have a2 : a.2.2.2.1 ≤ 1000 := a2 (by show s.2.1 + 1 ≤ 1000; omega)
              split at h2
              · obtain ⟨b1, b2, b3, b4⟩ := ih _ _ _ _ h2
                exact ⟨by omega, fun _ => b2 a2, b3, b4⟩
              · obtain ⟨w, h3, h4⟩ := mk_b_ok h2
                obtain ⟨b1, b2, b3, b4⟩ := ih _ _ _ _ h3
                cases h4
                exact ⟨by show s.2.1 + (1 + a.1.2.1 + w.1.2.1) ≤ w.2.2.2.1; omega, fun _ => b2 a2, by show 1 ≤ 1 + a.1.2.1 + w.1.2.1; omega, fun q => absurd q (show ¬(3 : Int32) = 1 by decide)⟩
            · split at h
              · obtain ⟨a, h1, h2⟩ := mk_b_ok h
                obtain ⟨a1, a2, a3, a4⟩ := ih _ _ _ _ h1
                have a1 : s.2.1 + 1 + a.1.2.1 ≤ a.2.2.2.1 := a1
                have a2 : a.2.2.2.1 ≤ 1000 := a2 (by show s.2.1 + 1 ≤ 1000; omega)
                split at h2
                · obtain ⟨b1, b2, b3, b4⟩ := ih _ _ _ _ h2
                  exact ⟨by omega, fun _ => b2 a2, b3, b4⟩
                · obtain ⟨w, h3, h4⟩ := mk_b_ok h2
                  obtain ⟨u, h5, h6⟩ := mk_b_ok h4
                  obtain ⟨b1, b2, b3, b4⟩ := ih _ _ _ _ h3
                  obtain ⟨c1, c2, c3, c4⟩ := ih _ _ _ _ h5
                  cases h6
                  exact ⟨by show s.2.1 + (1 + a.1.2.1 + w.1.2.1 + u.1.2.1) ≤ u.2.2.2.1; omega, fun _ => c2 (b2 a2), by show 1 ≤ 1 + a.1.2.1 + w.1.2.1 + u.1.2.1; omega, fun q => absurd q (show ¬(4 : Int32) = 1 by decide)⟩
              · split at h
                · split at h
                  · obtain ⟨a, h1, h2⟩ := mk_b_ok h
                    obtain ⟨w, h3, h4⟩ := mk_b_ok h2
                    obtain ⟨a1, a2⟩ := mk_args_sz ih _ _ _ _ _ h1
                    obtain ⟨b1, b2, b3, b4⟩ := mk_call_sz h3
                    have a1 : s.2.1 + 1 + mk_sz a.1 ≤ a.2.2.2.1 := a1
                    have a2 : a.2.2.2.1 ≤ 1000 := a2 (by show s.2.1 + 1 ≤ 1000; omega)
                    cases h4
                    exact ⟨by show s.2.1 + w.1.2.1 ≤ w.2.2.1; omega, fun _ => by show w.2.2.1 ≤ 1000; omega, b3, b4⟩
                  · cases h
                · next k1 k2 k3 k4 k5 =>
                  obtain ⟨a, h1, h2⟩ := mk_b_ok h
                  obtain ⟨w, h3, h4⟩ := mk_b_ok h2
                  obtain ⟨a1, a2, a3, a4⟩ := ih _ _ _ _ h1
                  obtain ⟨b1, b2, b3, b4⟩ := ih _ _ _ _ h3
                  have a1 : s.2.1 + 1 + a.1.2.1 ≤ a.2.2.2.1 := a1
                  have a2 : a.2.2.2.1 ≤ 1000 := a2 (by show s.2.1 + 1 ≤ 1000; omega)
                  split at h4
                  · cases h4
                    exact ⟨by show s.2.1 + 1 ≤ w.2.2.2.1; omega, fun _ => b2 a2, Nat.le_refl _, fun _ => rfl⟩
                  · cases h4
                    exact ⟨by show s.2.1 + (1 + a.1.2.1 + w.1.2.1) ≤ w.2.2.2.1; omega, fun _ => b2 a2, by show 1 ≤ 1 + a.1.2.1 + w.1.2.1; omega, fun q => absurd q k1⟩
      · cases h
/-! The reference's maker. -/
def mm_F (B k n mn ma a b : Nat) : Prop := (a = 135 ∧ (b = 35 ∨ b = 44 ∨ (46 ≤ b ∧ b ≤ 52) ∨ (65 ≤ b ∧ b ≤ 71) ∨ b = 73 ∨ b = 76 ∨ b = 79)) ∨ (143 ≤ a ∧ a ≤ 146 ∧ 3004 + 6002 * B + mn ≤ b ∧ b < 3004 + 6002 * B + 6000) ∨ (a = 149 ∧ 3004 + 6002 * B + ma ≤ b ∧ b < 3004 + 6002 * B + 6000) ∨ a = 152 ∨ a = 153 ∨ a = 157 ∨ a = 158 ∨ ((a = 159 ∨ a = 160) ∧ 80 * B ≤ b ∧ b < 80 * B + 80) ∨ (a = 161 ∧ 320 * B ≤ b ∧ b < 320 * B + 320) ∨ ((a = 165 ∨ a = 166) ∧ k ≤ b) ∨ ((a = 167 ∨ a = 168) ∧ n ≤ b) ∨ (169 ≤ a ∧ a ≤ 172)
theorem mm_F_le {B k n mn ma k' n' mn' ma' : Nat} (h1 : k ≤ k') (h2 : n ≤ n') (h3 : mn ≤ mn') (h4 : ma ≤ ma') : ∀ a b, mm_F B k' n' mn' ma' a b → mm_F B k n mn ma a b := by
  intro a b h
  unfold mm_F at h ⊢
  rcases h with h | h | h | h | h | h | h | h | h | h | h | h
  · exact Or.inl h
  · exact Or.inr (Or.inl (by omega))
  · exact Or.inr (Or.inr (Or.inl (by omega)))
  · exact Or.inr (Or.inr (Or.inr (Or.inl h)))
  · exact Or.inr (Or.inr (Or.inr (Or.inr (Or.inl h))))
  · exact Or.inr (Or.inr (Or.inr (Or.inr (Or.inr (Or.inl h)))))
  · exact Or.inr (Or.inr (Or.inr (Or.inr (Or.inr (Or.inr (Or.inl h))))))
  · exact Or.inr (Or.inr (Or.inr (Or.inr (Or.inr (Or.inr (Or.inr (Or.inl h)))))))
  · exact Or.inr (Or.inr (Or.inr (Or.inr (Or.inr (Or.inr (Or.inr (Or.inr (Or.inl h))))))))
  · exact Or.inr (Or.inr (Or.inr (Or.inr (Or.inr (Or.inr (Or.inr (Or.inr (Or.inr (Or.inl (by omega))))))))))
  · exact Or.inr (Or.inr (Or.inr (Or.inr (Or.inr (Or.inr (Or.inr (Or.inr (Or.inr (Or.inr (Or.inl (by omega)))))))))))
  · exact Or.inr (Or.inr (Or.inr (Or.inr (Or.inr (Or.inr (Or.inr (Or.inr (Or.inr (Or.inr (Or.inr h))))))))))
def mm_e (N : mk_N) (S : wd_S) : Prop := ∀ s q, N s = some q → s < 16 ∧ S.1 169 s = (if q.1 = true then 1 else 0) ∧ S.1 170 s = q.2 ∧ (q.1 = false → ∃ i, i < 16 ∧ q.2 = Int32.ofNat i)
def mm_v (B h : Nat) (pg : pg_T) (vs : List mk_V) (S : wd_S) : Prop := S.1 135 65 = Int32.ofNat vs.length ∧ mk_ok pg vs ∧ ∀ j, (hj : j < vs.length) → S.1 159 (80 * B + j) = Int32.ofNat (48 * h + vs[j].1) ∧ S.1 160 (80 * B + j) = Int32.ofNat vs[j].2.1 ∧ ∀ i, i < 4 → S.1 161 (4 * (80 * B + j) + i) = vs[j].2.2 i
def mm_X (B h : Nat) (pg : pg_T) (S0 : wd_S) : Prop := B ≤ 1 ∧ h ≤ 1 ∧ S0.1 135 64 = Int32.ofNat B ∧ mo_P h pg S0 ∧ pg.length ≤ 48 ∧ ∀ f, pg_n pg f ≤ 4
def mm_h (B h : Nat) (pg : pg_T) (S0 : wd_S) (N : mk_N) (s : mk_S) (k n mn ma ml : Nat) (S : wd_S) : Prop := of_f (mm_F B 0 0 0 0) S0 S ∧ S.1 135 66 = Int32.ofNat mn ∧ S.1 135 67 = Int32.ofNat (3004 + 6002 * B + ma) ∧ S.1 135 68 = Int32.ofNat s.2.2.1 ∧ S.1 135 69 = Int32.ofNat s.2.2.2 ∧ S.1 135 70 = Int32.ofNat ml ∧ S.1 135 71 = Int32.ofNat s.2.1 ∧ S.1 135 73 = 0 ∧ S.1 135 76 = Int32.ofNat k ∧ S.1 135 79 = Int32.ofNat n ∧ mn ≤ 1000 ∧ ma ≤ 1000 ∧ s.2.1 ≤ 1000 ∧ mm_e N S ∧ mm_v B h pg s.1 S
/-- a tree of a REST -/
def mm_t (B mn ma d z : Nat) (T : tr_T) (S : wd_S) : Prop := mj_t S (80 * B) (3004 + 6002 * B) (3004 + 6002 * B + mn) (3004 + 6002 * B) (3004 + 6002 * B + ma) d z T
/-- what lies at n of the results -/
def mm_r (B mn ma d n : Nat) (R : mk_R) (S : wd_S) : Prop := (tr_k R.1 = 1 ∧ S.1 167 n = 1 ∧ S.1 168 n = tr_v R.1 ∧ tr_a R.1 = 0) ∨ (¬tr_k R.1 = 1 ∧ S.1 167 n = 0 ∧ ∃ z, S.1 168 n = Int32.ofNat z ∧ mm_t B mn ma d z R.1 S)
def mm_nz (R : mk_R) : Nat := if tr_k R.1 = 1 then 0 else R.2.1
def mm_go (g : Nat) (S S' : wd_S) : Prop := ∀ F l1 l4, fn_Mo_makeVersion_132 (F + g) l1 l4 S = fn_Mo_makeVersion_132 F l1 l4 S'
def mm_G (B h : Nat) (pg : pg_T) (S0 : wd_S) (r k n mn ma ml : Nat) (q : mk_O) (S S' : wd_S) : Prop := ∃ ma', mm_h B h pg S0 q.2.1 q.2.2 k (n + 1) (mn + mm_nz q.1) ma' (ml + q.1.2.2) S' ∧ (if tr_k q.1.1 = 1 then ma' = ma else ma' + 1 ≤ mm_nz q.1 + ma) ∧ ma ≤ ma' ∧ mm_r B (mn + mm_nz q.1) ma' r n q.1 S' ∧ of_f (mm_F B k n mn ma) S S'
def mm_O (B h : Nat) (pg : pg_T) (S0 : wd_S) (r k n mn ma ml c : Nat) (x : Except mk_E mk_O) (S : wd_S) : Prop := match x with
  | .error none => True
  | .error (some _) => ∃ g S', mm_go g S S' ∧ g + c ≤ 3003 ∧ ¬S'.1 135 73 = 0 ∧ of_f (mm_F B k n mn ma) S S'
  | .ok q => ∃ g S', mm_go g S S' ∧ g + c ≤ 3 * q.2.2.2.1 ∧ mm_G B h pg S0 r k n mn ma ml q S S'
def mm_S (B h : Nat) (pg : pg_T) (S0 : wd_S) (r : Nat) : Prop := ∀ (N : mk_N) (s : mk_S) (k n mn ma ml y : Nat) (t : tr_T) (d : Nat) (S : wd_S), mm_h B h pg S0 N s (k + 1) n mn ma ml S → S.1 165 k = 1 → S.1 166 k = Int32.ofNat y → mn ≤ s.2.1 → ma ≤ mn → k + 6 * r ≤ 3900 → n + 5 * r ≤ 3900 → mj_t S0 (48 * h) (1501 * h) (1501 * h + 1500) (1501 * h) (1501 * h + 1500) d y t → mm_O B h pg S0 r k n mn ma ml (3 * s.2.1) (mk pg r N s t) S
