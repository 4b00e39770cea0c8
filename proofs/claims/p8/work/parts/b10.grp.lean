/-! part b10 -/
section
/-! How much is gone through; the reference's maker: its state, its stacks. -/
theorem mk_kp_sz : ∀ l : List mk_R, mk_sz (mk_kp l) ≤ mk_sz l := by
  intro l
  induction l with
  | nil => exact Nat.le_refl _
  | cons a l ih =>
    by_cases e : tr_k a.1 = 1
    · have ek : mk_kp (a :: l) = mk_kp l := List.filter_cons_of_neg (by rw [decide_eq_true_iff]; exact fun q => q e)
      rw [ek]
      show _ ≤ a.2.1 + mk_sz l
      omega
    · have ek : mk_kp (a :: l) = a :: mk_kp l := List.filter_cons_of_pos (decide_eq_true e)
      rw [ek]
      show a.2.1 + mk_sz (mk_kp l) ≤ a.2.1 + mk_sz l
      omega
def mk_nn (R : mk_R) : Prop := tr_k R.1 = 1 → R.2 = (1, 0)
theorem mk_ld_sz {f m : Nat} {kn : Nat → Int32} {as : List mk_R} {vs : List mk_V} : mk_sz (mk_ld f m kn as vs).2.1 ≤ mk_sz as := by
  unfold mk_ld
  split
  · exact mk_kp_sz _
  · split
    · exact mk_kp_sz _
    · split
      · exact Nat.le_refl _
      · exact Nat.le_refl _
theorem mk_call_sz {P : List tr_T} {f : Nat} {as : List mk_R} {s : mk_S} {w : mk_R × mk_S} (h : mk_call P f as s = .ok w) : w.2.2.1 = s.2.1 ∧ w.1.2.1 ≤ 1 + mk_sz as ∧ 1 ≤ w.1.2.1 ∧ mk_nn w.1 := by
  have hl : ∀ s' : mk_S, ((mk_go f as s').1).2.1 ≤ 1 + mk_sz as ∧ 1 ≤ ((mk_go f as s').1).2.1 ∧ mk_nn (mk_go f as s').1 := fun s' => ⟨Nat.add_le_add_left mk_ld_sz 1, Nat.le_add_right 1 _, fun q => absurd q (show ¬(5 : Int32) = 1 by decide)⟩
  unfold mk_call at h
  split at h
  · split at h
    · cases h; exact ⟨rfl, Nat.le_add_right _ _, Nat.le_refl _, fun _ => rfl⟩
    · cases h
    · cases h; exact ⟨rfl, hl _⟩
  · cases h; exact ⟨rfl, hl _⟩
theorem mk_args_sz {self : mk_P} (hs : ∀ N s t q, self N s t = .ok q → s.2.1 + q.1.2.1 ≤ q.2.2.2.1 ∧ (s.2.1 ≤ 1000 → q.2.2.2.1 ≤ 1000) ∧ 1 ≤ q.1.2.1 ∧ mk_nn q.1) {t : tr_T} : ∀ (r j : Nat) (N : mk_N) (s : mk_S) (q : List mk_R × mk_N × mk_S), mk_args self t r j N s = .ok q → s.2.1 + mk_sz q.1 ≤ q.2.2.2.1 ∧ (s.2.1 ≤ 1000 → q.2.2.2.1 ≤ 1000) := by
  intro r
  induction r with
  | zero => intro j N s q h; cases h; exact ⟨Nat.le_refl _, id⟩
  | succ r ih =>
    intro j N s q h
    obtain ⟨a, h1, h2⟩ := mk_b_ok h
    obtain ⟨w, h3, h4⟩ := mk_b_ok h2
    cases h4
    obtain ⟨a1, a2, -⟩ := hs _ _ _ _ h1
    obtain ⟨b1, b2⟩ := ih _ _ _ _ h3
    refine ⟨?_, fun z => b2 (a2 z)⟩
    show s.2.1 + (a.1.2.1 + mk_sz w.1) ≤ w.2.2.2.1
    omega
theorem mk_gs {pg : pg_T} : ∀ (r : Nat) (N : mk_N) (s : mk_S) (t : tr_T) (q : mk_O), mk pg r N s t = .ok q → s.2.1 + q.1.2.1 ≤ q.2.2.2.1 ∧ (s.2.1 ≤ 1000 → q.2.2.2.1 ≤ 1000) ∧ 1 ≤ q.1.2.1 ∧ mk_nn q.1 := by
  intro r
  induction r with
  | zero => intro N s t q h; cases h
  | succ r ih =>
    intro N s t q h
    unfold mk at h
    split at h
    · cases h
    · next hg =>
      unfold mk_in at h
      split at h
      · split at h
        · cases h; exact ⟨Nat.le_refl _, fun _ => by show s.2.1 + 1 ≤ 1000; omega, Nat.le_refl _, fun _ => rfl⟩
        · split at h
          · split at h
            · next w _ =>
              cases h
              unfold mk_name
              split
              · exact ⟨Nat.le_refl _, fun _ => by show s.2.1 + 1 ≤ 1000; omega, Nat.le_refl _, fun _ => rfl⟩
              · exact ⟨Nat.le_refl _, fun _ => by show s.2.1 + 1 ≤ 1000; omega, Nat.le_refl _, fun _ => rfl⟩
            · cases h
          · split at h
            · obtain ⟨a, h1, h2⟩ := mk_b_ok h
              obtain ⟨a1, a2, a3, a4⟩ := ih _ _ _ _ h1
              have a1 : s.2.1 + 1 + a.1.2.1 ≤ a.2.2.2.1 := a1
              have a2 : a.2.2.2.1 ≤ 1000 := a2 (by show s.2.1 + 1 ≤ 1000; omega)
              split at h2
              · obtain ⟨b1, b2, b3, b4⟩ := ih _ _ _ _ h2
                exact ⟨by omega, fun _ => b2 a2, b3, b4⟩
              · obtain ⟨w, h3, h4⟩ := mk_b_ok h2
                obtain ⟨b1, b2, b3, b4⟩ := ih _ _ _ _ h3
                cases h4
                exact ⟨by show s.2.1 + (1 + a.1.2.1 + w.1.2.1) ≤ w.2.2.2.1; omega, fun _ => b2 a2, by show 1 ≤ 1 + a.1.2.1 + w.1.2.1; omega, fun q => absurd q (show ¬(3 : Int32) = 1 by decide)⟩
            · split at h
              · obtain ⟨a, h1, h2⟩ := mk_b_ok h
                obtain ⟨a1, a2, a3, a4⟩ := ih _ _ _ _ h1
                have a1 : s.2.1 + 1 + a.1.2.1 ≤ a.2.2.2.1 := a1
                have a2 : a.2.2.2.1 ≤ 1000 := a2 (by show s.2.1 + 1 ≤ 1000; omega)
                split at h2
                · obtain ⟨b1, b2, b3, b4⟩ := ih _ _ _ _ h2
                  exact ⟨by omega, fun _ => b2 a2, b3, b4⟩
                · obtain ⟨w, h3, h4⟩ := mk_b_ok h2
                  obtain ⟨u, h5, h6⟩ := mk_b_ok h4
                  obtain ⟨b1, b2, b3, b4⟩ := ih _ _ _ _ h3
                  obtain ⟨c1, c2, c3, c4⟩ := ih _ _ _ _ h5
                  cases h6
                  exact ⟨by show s.2.1 + (1 + a.1.2.1 + w.1.2.1 + u.1.2.1) ≤ u.2.2.2.1; omega, fun _ => c2 (b2 a2), by show 1 ≤ 1 + a.1.2.1 + w.1.2.1 + u.1.2.1; omega, fun q => absurd q (show ¬(4 : Int32) = 1 by decide)⟩
              · split at h
                · split at h
                  · obtain ⟨a, h1, h2⟩ := mk_b_ok h
                    obtain ⟨w, h3, h4⟩ := mk_b_ok h2
                    obtain ⟨a1, a2⟩ := mk_args_sz ih _ _ _ _ _ h1
                    obtain ⟨b1, b2, b3, b4⟩ := mk_call_sz h3
                    have a1 : s.2.1 + 1 + mk_sz a.1 ≤ a.2.2.2.1 := a1
                    have a2 : a.2.2.2.1 ≤ 1000 := a2 (by show s.2.1 + 1 ≤ 1000; omega)
                    cases h4
                    exact ⟨by show s.2.1 + w.1.2.1 ≤ w.2.2.1; omega, fun _ => by show w.2.2.1 ≤ 1000; omega, b3, b4⟩
                  · cases h
                · next k1 k2 k3 k4 k5 =>
                  obtain ⟨a, h1, h2⟩ := mk_b_ok h
                  obtain ⟨w, h3, h4⟩ := mk_b_ok h2
                  obtain ⟨a1, a2, a3, a4⟩ := ih _ _ _ _ h1
                  obtain ⟨b1, b2, b3, b4⟩ := ih _ _ _ _ h3
                  have a1 : s.2.1 + 1 + a.1.2.1 ≤ a.2.2.2.1 := a1
                  have a2 : a.2.2.2.1 ≤ 1000 := a2 (by show s.2.1 + 1 ≤ 1000; omega)
                  split at h4
                  · cases h4
                    exact ⟨by show s.2.1 + 1 ≤ w.2.2.2.1; omega, fun _ => b2 a2, Nat.le_refl _, fun _ => rfl⟩
                  · cases h4
                    exact ⟨by show s.2.1 + (1 + a.1.2.1 + w.1.2.1) ≤ w.2.2.2.1; omega, fun _ => b2 a2, by show 1 ≤ 1 + a.1.2.1 + w.1.2.1; omega, fun q => absurd q k1⟩
      · cases h
/-! The reference's maker. -/
def mm_F (B k n mn ma a b : Nat) : Prop := (a = 135 ∧ (b = 35 ∨ b = 44 ∨ (46 ≤ b ∧ b ≤ 52) ∨ (65 ≤ b ∧ b ≤ 71) ∨ b = 73 ∨ b = 76 ∨ b = 79)) ∨ (143 ≤ a ∧ a ≤ 146 ∧ 3004 + 6002 * B + mn ≤ b ∧ b < 3004 + 6002 * B + 6000) ∨ (a = 149 ∧ 3004 + 6002 * B + ma ≤ b ∧ b < 3004 + 6002 * B + 6000) ∨ a = 152 ∨ a = 153 ∨ a = 157 ∨ a = 158 ∨ ((a = 159 ∨ a = 160) ∧ 80 * B ≤ b ∧ b < 80 * B + 80) ∨ (a = 161 ∧ 320 * B ≤ b ∧ b < 320 * B + 320) ∨ ((a = 165 ∨ a = 166) ∧ k ≤ b) ∨ ((a = 167 ∨ a = 168) ∧ n ≤ b) ∨ (169 ≤ a ∧ a ≤ 172)
theorem mm_F_le {B k n mn ma k' n' mn' ma' : Nat} (h1 : k ≤ k') (h2 : n ≤ n') (h3 : mn ≤ mn') (h4 : ma ≤ ma') : ∀ a b, mm_F B k' n' mn' ma' a b → mm_F B k n mn ma a b := by
  intro a b h
  unfold mm_F at h ⊢
  rcases h with h | h | h | h | h | h | h | h | h | h | h | h
  · exact Or.inl h
  · exact Or.inr (Or.inl (by omega))
  · exact Or.inr (Or.inr (Or.inl (by omega)))
  · exact Or.inr (Or.inr (Or.inr (Or.inl h)))
  · exact Or.inr (Or.inr (Or.inr (Or.inr (Or.inl h))))
  · exact Or.inr (Or.inr (Or.inr (Or.inr (Or.inr (Or.inl h)))))
  · exact Or.inr (Or.inr (Or.inr (Or.inr (Or.inr (Or.inr (Or.inl h))))))
  · exact Or.inr (Or.inr (Or.inr (Or.inr (Or.inr (Or.inr (Or.inr (Or.inl h)))))))
  · exact Or.inr (Or.inr (Or.inr (Or.inr (Or.inr (Or.inr (Or.inr (Or.inr (Or.inl h))))))))
  · exact Or.inr (Or.inr (Or.inr (Or.inr (Or.inr (Or.inr (Or.inr (Or.inr (Or.inr (Or.inl (by omega))))))))))
  · exact Or.inr (Or.inr (Or.inr (Or.inr (Or.inr (Or.inr (Or.inr (Or.inr (Or.inr (Or.inr (Or.inl (by omega)))))))))))
  · exact Or.inr (Or.inr (Or.inr (Or.inr (Or.inr (Or.inr (Or.inr (Or.inr (Or.inr (Or.inr (Or.inr h))))))))))
def mm_e (N : mk_N) (S : wd_S) : Prop := ∀ s q, N s = some q → s < 16 ∧ S.1 169 s = (if q.1 = true then 1 else 0) ∧ S.1 170 s = q.2 ∧ (q.1 = false → ∃ i, i < 16 ∧ q.2 = Int32.ofNat i)
def mm_v (B h : Nat) (pg : pg_T) (vs : List mk_V) (S : wd_S) : Prop := S.1 135 65 = Int32.ofNat vs.length ∧ mk_ok pg vs ∧ ∀ j, (hj : j < vs.length) → S.1 159 (80 * B + j) = Int32.ofNat (48 * h + vs[j].1) ∧ S.1 160 (80 * B + j) = Int32.ofNat vs[j].2.1 ∧ ∀ i, i < 4 → S.1 161 (4 * (80 * B + j) + i) = vs[j].2.2 i
def mm_X (B h : Nat) (pg : pg_T) (S0 : wd_S) : Prop := B ≤ 1 ∧ h ≤ 1 ∧ S0.1 135 64 = Int32.ofNat B ∧ mo_P h pg S0 ∧ pg.length ≤ 48 ∧ ∀ f, pg_n pg f ≤ 4
def mm_h (B h : Nat) (pg : pg_T) (S0 : wd_S) (N : mk_N) (s : mk_S) (k n mn ma ml : Nat) (S : wd_S) : Prop := of_f (mm_F B 0 0 0 0) S0 S ∧ S.1 135 66 = Int32.ofNat mn ∧ S.1 135 67 = Int32.ofNat (3004 + 6002 * B + ma) ∧ S.1 135 68 = Int32.ofNat s.2.2.1 ∧ S.1 135 69 = Int32.ofNat s.2.2.2 ∧ S.1 135 70 = Int32.ofNat ml ∧ S.1 135 71 = Int32.ofNat s.2.1 ∧ S.1 135 73 = 0 ∧ S.1 135 76 = Int32.ofNat k ∧ S.1 135 79 = Int32.ofNat n ∧ mn ≤ 1000 ∧ ma ≤ 1000 ∧ s.2.1 ≤ 1000 ∧ mm_e N S ∧ mm_v B h pg s.1 S
/-- a tree of a REST -/
def mm_t (B mn ma d z : Nat) (T : tr_T) (S : wd_S) : Prop := mj_t S (80 * B) (3004 + 6002 * B) (3004 + 6002 * B + mn) (3004 + 6002 * B) (3004 + 6002 * B + ma) d z T
/-- what lies at n of the results -/
def mm_r (B mn ma d n : Nat) (R : mk_R) (S : wd_S) : Prop := (tr_k R.1 = 1 ∧ S.1 167 n = 1 ∧ S.1 168 n = tr_v R.1 ∧ tr_a R.1 = 0) ∨ (¬tr_k R.1 = 1 ∧ S.1 167 n = 0 ∧ ∃ z, S.1 168 n = Int32.ofNat z ∧ mm_t B mn ma d z R.1 S)
def mm_nz (R : mk_R) : Nat := if tr_k R.1 = 1 then 0 else R.2.1
def mm_go (g : Nat) (S S' : wd_S) : Prop := ∀ F l1 l4, fn_Mo_makeVersion_132 (F + g) l1 l4 S = fn_Mo_makeVersion_132 F l1 l4 S'
def mm_G (B h : Nat) (pg : pg_T) (S0 : wd_S) (r k n mn ma ml : Nat) (q : mk_O) (S S' : wd_S) : Prop := ∃ ma', mm_h B h pg S0 q.2.1 q.2.2 k (n + 1) (mn + mm_nz q.1) ma' (ml + q.1.2.2) S' ∧ (if tr_k q.1.1 = 1 then ma' = ma else ma' + 1 ≤ mm_nz q.1 + ma) ∧ ma ≤ ma' ∧ mm_r B (mn + mm_nz q.1) ma' r n q.1 S' ∧ of_f (mm_F B k n mn ma) S S'
def mm_O (B h : Nat) (pg : pg_T) (S0 : wd_S) (r k n mn ma ml c : Nat) (x : Except mk_E mk_O) (S : wd_S) : Prop := match x with
  | .error none => True
  | .error (some _) => ∃ g S', mm_go g S S' ∧ g + c ≤ 3003 ∧ ¬S'.1 135 73 = 0 ∧ of_f (mm_F B k n mn ma) S S'
  | .ok q => ∃ g S', mm_go g S S' ∧ g + c ≤ 3 * q.2.2.2.1 ∧ mm_G B h pg S0 r k n mn ma ml q S S'
def mm_S (B h : Nat) (pg : pg_T) (S0 : wd_S) (r : Nat) : Prop := ∀ (N : mk_N) (s : mk_S) (k n mn ma ml y : Nat) (t : tr_T) (d : Nat) (S : wd_S), mm_h B h pg S0 N s (k + 1) n mn ma ml S → S.1 165 k = 1 → S.1 166 k = Int32.ofNat y → mn ≤ s.2.1 → ma ≤ mn → k + 6 * r ≤ 3900 → n + 5 * r ≤ 3900 → mj_t S0 (48 * h) (1501 * h) (1501 * h + 1500) (1501 * h) (1501 * h + 1500) d y t → mm_O B h pg S0 r k n mn ma ml (3 * s.2.1) (mk pg r N s t) S
end
/-! part b11 -/
section
/-! The reference's maker: tasks, results, nodes. -/
def ml_p (k : Nat) (x y : Int32) (S : wd_S) : wd_S := wd_i (wd_i (wd_i S 165 k x) 166 k y) 135 76 (Int32.ofNat (k + 1))
def mg_p (n : Nat) (x y : Int32) (S : wd_S) : wd_S := wd_i (wd_i (wd_i S 167 n x) 168 n y) 135 79 (Int32.ofNat (n + 1))
def mm_w (B k n mn ma a b : Nat) : Prop := (a = 135 ∧ (b = 66 ∨ b = 67 ∨ b = 70 ∨ b = 76 ∨ b = 79)) ∨ (143 ≤ a ∧ a ≤ 146 ∧ 3004 + 6002 * B + mn ≤ b ∧ b < 3004 + 6002 * B + 6000) ∨ (a = 149 ∧ 3004 + 6002 * B + ma ≤ b ∧ b < 3004 + 6002 * B + 6000) ∨ ((a = 165 ∨ a = 166) ∧ k ≤ b) ∨ ((a = 167 ∨ a = 168) ∧ n ≤ b) ∨ a = 172
theorem mm_w_F {B k n mn ma : Nat} : ∀ a b, mm_w B k n mn ma a b → mm_F B k n mn ma a b := by
  intro a b h
  unfold mm_w at h
  unfold mm_F
  rcases h with h | h | h | h | h | h
  · exact Or.inl ⟨h.1, by omega⟩
  · exact Or.inr (Or.inl h)
  · exact Or.inr (Or.inr (Or.inl h))
  · exact Or.inr (Or.inr (Or.inr (Or.inr (Or.inr (Or.inr (Or.inr (Or.inr (Or.inr (Or.inl h)))))))))
  · exact Or.inr (Or.inr (Or.inr (Or.inr (Or.inr (Or.inr (Or.inr (Or.inr (Or.inr (Or.inr (Or.inl h))))))))))
  · exact Or.inr (Or.inr (Or.inr (Or.inr (Or.inr (Or.inr (Or.inr (Or.inr (Or.inr (Or.inr (Or.inr (by omega)))))))))))
section Mm2
variable {B h : Nat} {pg : pg_T} {S0 S S' S1 S2 : wd_S} {N N' : mk_N} {s s' : mk_S} {k n mn ma ml k' n' mn' ma' ml' y z d r c p : Nat} {t : tr_T} {x v : Int32} {R : mk_R}
theorem ms_iy {m L : Nat} (h : m < L) (hL : L < 2147483648) : ¬(Int32.ofNat m < 0 ∨ L ≤ m) := fun q => by
  rcases q with q | q
  · exact im_neg (by omega) q
  · omega
theorem ml_o : of_f (fun a b => (a = 135 ∧ b = 76) ∨ ((a = 165 ∨ a = 166) ∧ b = k)) S (ml_p k x v S) := of_i (by omega) (of_i (by omega) (of_i (by omega) of_refl))
theorem ml_row {a : Nat} (h1 : a ≠ 135) (h2 : a ≠ 165) (h3 : a ≠ 166) : (ml_p k x v S).1 a = S.1 a := by
  unfold ml_p
  rw [fr_row _ h1, fr_row _ h3, fr_row _ h2]
theorem ml_76 : (ml_p k x v S).1 135 76 = Int32.ofNat (k + 1) := fr_eq
theorem ml_165 {b : Nat} : (ml_p k x v S).1 165 b = if b = k then x else S.1 165 b := by
  unfold ml_p
  rw [fr_ne (by omega), fr_ne (by omega), fr_i1]
  by_cases e : b = k
  · rw [if_pos ⟨rfl, e⟩, if_pos e]
  · rw [if_neg (fun q => e q.2), if_neg e]
theorem ml_166 {b : Nat} : (ml_p k x v S).1 166 b = if b = k then v else S.1 166 b := by
  unfold ml_p
  rw [fr_ne (by omega), fr_i1]
  by_cases e : b = k
  · rw [if_pos ⟨rfl, e⟩, if_pos e]
  · rw [if_neg (fun q => e q.2), if_neg e, fr_ne (by omega)]
theorem mm_later (hk : S.1 135 76 = Int32.ofNat k) (h4 : k < 4000) : fn_Mo_later x v S = some (ml_p k x v S) := by
  have e2 : (wd_i S 165 k x).1 135 76 = Int32.ofNat k := by rw [fr_ne (by omega)]; exact hk
  have e3 : (wd_i (wd_i S 165 k x) 166 k v).1 135 76 = Int32.ofNat k := by rw [fr_ne (by omega)]; exact e2
  unfold fn_Mo_later fn_Mo_later_40
  simp only [wd_b]
  rw [hk, if_pos (show Int32.ofNat k < 4000 from (im_lt (m := k) (n := 4000) (by omega) (by omega)).mpr h4), if_neg (ms_in h4 (by decide)), im_t (show k < 2147483648 by omega), e2, if_neg (ms_in h4 (by decide)), im_t (show k < 2147483648 by omega), e3, im_s]
  rfl
theorem mm_gives (hn : S.1 135 79 = Int32.ofNat n) (h4 : n < 4000) (hx : x = 0 ∨ x = 1) : fn_Mo_gives x v S = some (mg_p n x v S) := by
  have e2 : (wd_i S 167 n x).1 135 79 = Int32.ofNat n := by rw [fr_ne (by omega)]; exact hn
  have e3 : (wd_i (wd_i S 167 n x) 168 n v).1 135 79 = Int32.ofNat n := by rw [fr_ne (by omega)]; exact e2
  have hf : mi_fit .boolean (.int x) = true := by rcases hx with z | z <;> rw [z] <;> rfl
  unfold fn_Mo_gives
  simp only [wd_b]
  rw [hn, if_neg (fun q => by rcases q with q | q; exact ms_in h4 (by decide) q; exact q hf), im_t (show n < 2147483648 by omega), e2, if_neg (ms_in h4 (by decide)), im_t (show n < 2147483648 by omega), e3, im_s]
  rfl
theorem mg_o : of_f (fun a b => (a = 135 ∧ b = 79) ∨ ((a = 167 ∨ a = 168) ∧ b = n)) S (mg_p n x v S) := of_i (by omega) (of_i (by omega) (of_i (by omega) of_refl))
theorem mg_167 : (mg_p n x v S).1 167 n = x := by unfold mg_p; rw [fr_ne (by omega), fr_ne (by omega), fr_eq]
theorem mg_168 : (mg_p n x v S).1 168 n = v := by unfold mg_p; rw [fr_ne (by omega), fr_eq]
theorem mg_79 : (mg_p n x v S).1 135 79 = Int32.ofNat (n + 1) := fr_eq
theorem mm_ad (B mn : Nat) : (3004 : Int32) + 6002 * Int32.ofNat B + Int32.ofNat mn = Int32.ofNat (3004 + 6002 * B + mn) := by
  rw [show (3004 : Int32) = Int32.ofNat 3004 from rfl, show (6002 : Int32) = Int32.ofNat 6002 from rfl, ← Int32.ofNat_mul, ← Int32.ofNat_add, ← Int32.ofNat_add]
theorem mm_fresh (hB : B ≤ 1) (h64 : S.1 135 64 = Int32.ofNat B) (h66 : S.1 135 66 = Int32.ofNat mn) (hm : mn ≤ 2000) : fn_Mo_fresh x S = some (Int32.ofNat (3004 + 6002 * B + mn), wd_i (wd_i S 135 66 (Int32.ofNat (mn + 1))) 143 (3004 + 6002 * B + mn) x) := by
  unfold fn_Mo_fresh
  simp only [wd_b]
  rw [h66, h64, mm_ad, if_pos (show Int32.ofNat mn < 6000 from (im_lt (m := mn) (n := 6000) (by omega) (by omega)).mpr (by omega)), if_neg (ms_in (show 3004 + 6002 * B + mn < 15010 by omega) (by decide)), im_t (show 3004 + 6002 * B + mn < 2147483648 by omega), im_s]
/-- what a step of this kind leaves of the state -/
theorem mm_hw {k0 n0 mn0 ma0 : Nat} (hh : mm_h B h pg S0 N s k n mn ma ml S) (ho : of_f (mm_w B k0 n0 mn0 ma0) S S') (e66 : S'.1 135 66 = Int32.ofNat mn') (e67 : S'.1 135 67 = Int32.ofNat (3004 + 6002 * B + ma')) (e70 : S'.1 135 70 = Int32.ofNat ml') (e76 : S'.1 135 76 = Int32.ofNat k') (e79 : S'.1 135 79 = Int32.ofNat n') (hmn : mn' ≤ 1000) (hma : ma' ≤ 1000) : mm_h B h pg S0 N s k' n' mn' ma' ml' S' := by
  obtain ⟨a1, -, -, a4, a5, -, a7, a8, -, -, -, -, a13, a14, a15⟩ := hh
  have e : ∀ b, b = 65 ∨ b = 68 ∨ b = 69 ∨ b = 71 ∨ b = 73 → S'.1 135 b = S.1 135 b := fun b hb => ho.1 135 b (by unfold mm_w; omega)
  have f : ∀ a b, (159 ≤ a ∧ a ≤ 161) ∨ a = 169 ∨ a = 170 → S'.1 a b = S.1 a b := fun a b hb => ho.1 a b (by unfold mm_w; omega)
  refine ⟨of_trans a1 (of_mono (fun a b q => mm_F_le (Nat.zero_le _) (Nat.zero_le _) (Nat.zero_le _) (Nat.zero_le _) a b (mm_w_F a b q)) ho), e66, e67, by rw [e 68 (by omega)]; exact a4, by rw [e 69 (by omega)]; exact a5, e70, by rw [e 71 (by omega)]; exact a7, by rw [e 73 (by omega)]; exact a8, e76, e79, hmn, hma, a13, fun i q hi => ?_, by rw [e 65 (by omega)]; exact a15.1, a15.2.1, fun j hj => ?_⟩
  · obtain ⟨b1, b2, b3, b4⟩ := a14 i q hi
    exact ⟨b1, by rw [f 169 i (by omega)]; exact b2, by rw [f 170 i (by omega)]; exact b3, b4⟩
  · obtain ⟨b1, b2, b3⟩ := a15.2.2 j hj
    exact ⟨by rw [f 159 _ (by omega)]; exact b1, by rw [f 160 _ (by omega)]; exact b2, fun i hi => by rw [f 161 _ (by omega)]; exact b3 i hi⟩
theorem mm_64 (hX : mm_X B h pg S0) (hh : of_f (mm_F B 0 0 0 0) S0 S) : S.1 135 64 = Int32.ofNat B := by rw [hh.1 135 64 (by unfold mm_F; omega)]; exact hX.2.2.1
/-- the text stays -/
theorem mm_txt (hX : mm_X B h pg S0) (hh : of_f (mm_F B 0 0 0 0) S0 S) (ht : mj_t S0 (48 * h) (1501 * h) (1501 * h + 1500) (1501 * h) (1501 * h + 1500) d y t) : mj_t S (48 * h) (1501 * h) (1501 * h + 1500) (1501 * h) (1501 * h + 1500) d y t := mj_t_m (Nat.le_refl _) (Nat.le_refl _) (Nat.le_refl _) (Nat.le_refl _) (mj_g_o hh (fun a b q1 q2 q3 q4 => by have := hX.2.1; unfold mm_F; omega) (fun b q1 q2 => by have := hX.2.1; unfold mm_F; omega)) d y t ht
theorem mm_t_o {k0 n0 : Nat} (ho : of_f (mm_F B k0 n0 mn ma) S S') (hmn : mn ≤ mn') (hma : ma ≤ ma') (ht : mm_t B mn ma d z t S) : mm_t B mn' ma' d z t S' := mj_t_m (Nat.le_refl _) (by omega) (Nat.le_refl _) (by omega) (mj_g_o ho (fun a b q1 q2 q3 q4 => by unfold mm_F; omega) (fun b q1 q2 => by unfold mm_F; omega)) d z t ht
theorem mj_t_s {X lo hi al ah : Nat} : ∀ (d y : Nat) (t : tr_T), mj_t S X lo hi al ah d y t → mj_t S X lo hi al ah (d + 1) y t := by
  intro d
  induction d with
  | zero => intro y t q; exact absurd q id
  | succ d ih => intro y t q; exact ⟨q.1, q.2.1, mj_b_m (fun z t w => ih z t w) (Nat.le_refl _) (Nat.le_refl _) ⟨rfl, rfl, rfl, rfl⟩ (fun _ _ _ => rfl) q.2.2⟩
theorem mj_t_le {X lo hi al ah e : Nat} (hd : d ≤ e) (ht : mj_t S X lo hi al ah d y t) : mj_t S X lo hi al ah e y t := by
  induction hd with
  | refl => exact ht
  | step _ ih => exact mj_t_s _ _ _ ih
theorem mm_t_d {e : Nat} (hd : d ≤ e) (ht : mm_t B mn ma d z t S) : mm_t B mn ma e z t S := mj_t_le hd ht
theorem mm_r_o {k0 n0 : Nat} (ho : of_f (mm_F B k0 n0 mn ma) S S') (hp : p < n0) (hmn : mn ≤ mn') (hma : ma ≤ ma') (hr : mm_r B mn ma d p R S) : mm_r B mn' ma' d p R S' := by
  have e1 : S'.1 167 p = S.1 167 p := ho.1 167 p (by unfold mm_F; omega)
  have e2 : S'.1 168 p = S.1 168 p := ho.1 168 p (by unfold mm_F; omega)
  rcases hr with ⟨h1, h2, h3, h4⟩ | ⟨h1, h2, z, h3, h4⟩
  · exact Or.inl ⟨h1, by rw [e1]; exact h2, by rw [e2]; exact h3, h4⟩
  · exact Or.inr ⟨h1, by rw [e1]; exact h2, z, by rw [e2]; exact h3, mm_t_o ho hmn hma h4⟩
theorem mm_t_g {g g' : Nat} (h1 : mm_go g S S1) (h2 : mm_go g' S1 S2) : mm_go (g + g') S S2 := fun F l1 l4 => by rw [← h2 F l1 l4, ← h1 (F + g') l1 l4, Nat.add_assoc, Nat.add_comm g' g]
theorem mm_pop (hh : mm_h B h pg S0 N s (k + 1) n mn ma ml S) (hk : k < 4000) (hf : fn_Mo_onMaking (S.1 165 k) (S.1 166 k) (wd_i S 135 76 (Int32.ofNat k)) = some S') : mm_go 1 S S' := fun F l1 l4 => by
  have a8 := hh.2.2.2.2.2.2.2.1
  have a9 := hh.2.2.2.2.2.2.2.2.1
  rw [fn_Mo_makeVersion_132, a9, if_pos (show (0 : Int32) < Int32.ofNat (k + 1) from (im_lt (m := 0) (n := k + 1) (by omega) (by omega)).mpr (by omega)), if_pos a8, im_p]
  simp only [wd_b]
  rw [fr_eq, if_neg (ms_in hk (by decide)), if_neg (ms_in hk (by decide)), im_t (show k < 2147483648 by omega), fr_ne (by omega), fr_ne (by omega), hf, wd_d_s]
theorem mm_pop_h (hh : mm_h B h pg S0 N s (k + 1) n mn ma ml S) : mm_h B h pg S0 N s k n mn ma ml (wd_i S 135 76 (Int32.ofNat k)) := by
  obtain ⟨a1, a2, a3, a4, a5, a6, a7, a8, a9, a10, a11, a12, a13⟩ := id hh
  exact mm_hw (k0 := 0) (n0 := 0) (mn0 := 0) (ma0 := 0) hh (of_i (by unfold mm_w; omega) of_refl) (by rw [fr_ne (by omega)]; exact a2) (by rw [fr_ne (by omega)]; exact a3) (by rw [fr_ne (by omega)]; exact a6) fr_eq (by rw [fr_ne (by omega)]; exact a10) a11 a12
theorem mm_step {x : Except mk_E mk_O} (h1 : mm_go 1 S S1) (o1 : of_f (mm_F B k n mn ma) S S1) (h2 : mm_O B h pg S0 r k n mn ma ml (c + 1) x S1) : mm_O B h pg S0 r k n mn ma ml c x S := by
  cases x with
  | error e =>
    cases e with
    | none => trivial
    | some e =>
      obtain ⟨g, S2, k1, k2, k3, k4⟩ := h2
      exact ⟨1 + g, S2, mm_t_g h1 k1, by omega, k3, of_trans o1 k4⟩
  | ok q =>
    obtain ⟨g, S2, k1, k2, ma', k3, k4, k5, k6, k7⟩ := h2
    exact ⟨1 + g, S2, mm_t_g h1 k1, by omega, ma', k3, k4, k5, k6, of_trans o1 k7⟩
theorem mm_bind {x : Except mk_E mk_O} {f : mk_O → Except mk_E mk_O} {r1 k1 n1 mn1 ma1 ml1 c1 : Nat} (e : Nat) (hx : mm_O B h pg S0 r1 k1 n1 mn1 ma1 ml1 c1 x S) (hce : c + e ≤ c1) (hk : k ≤ k1) (hn : n ≤ n1) (hmn : mn ≤ mn1) (hma : ma ≤ ma1) (hf : ∀ q S', x = .ok q → mm_G B h pg S0 r1 k1 n1 mn1 ma1 ml1 q S S' → mm_O B h pg S0 r k n mn ma ml (3 * q.2.2.2.1 - e) (f q) S') : mm_O B h pg S0 r k n mn ma ml c (mk_b x f) S := by
  cases x with
  | error e =>
    cases e with
    | none => trivial
    | some e =>
      obtain ⟨g, S2, l1, l2, l3, l4⟩ := hx
      exact ⟨g, S2, l1, by omega, l3, of_mono (mm_F_le hk hn hmn hma) l4⟩
  | ok q =>
    obtain ⟨g, S2, l1, l2, l3⟩ := hx
    obtain ⟨ma9, -, -, -, -, o9⟩ := id l3
    have o1 := of_mono (mm_F_le hk hn hmn hma) o9
    have := hf q S2 rfl l3
    show mm_O B h pg S0 r k n mn ma ml c (f q) S
    unfold mm_O at this ⊢
    split at this
    · trivial
    · obtain ⟨g', S3, j1, j2, j3, j4⟩ := this
      exact ⟨g + g', S3, mm_t_g l1 j1, by omega, j3, of_trans o1 j4⟩
    · obtain ⟨g', S3, j1, j2, ma', j3, j4, j5, j6, j7⟩ := this
      exact ⟨g + g', S3, mm_t_g l1 j1, by omega, ma', j3, j4, j5, j6, of_trans o1 j7⟩
theorem mm_more {x : Except mk_E mk_O} {r' c' : Nat} (hr : r ≤ r') (hc : c' ≤ c) (hx : mm_O B h pg S0 r k n mn ma ml c x S) : mm_O B h pg S0 r' k n mn ma ml c' x S := by
  cases x with
  | error e =>
    cases e with
    | none => trivial
    | some e =>
      obtain ⟨g, S2, l1, l2, l3, l4⟩ := hx
      exact ⟨g, S2, l1, by omega, l3, l4⟩
  | ok q =>
    obtain ⟨g, S2, k1, k2, ma', k3, k4, k5, k6, k7⟩ := hx
    refine ⟨g, S2, k1, by omega, ma', k3, k4, k5, ?_, k7⟩
    rcases k6 with q | ⟨q1, q2, z, q3, q4⟩
    · exact Or.inl q
    · exact Or.inr ⟨q1, q2, z, q3, mm_t_d hr q4⟩
/-- one more is gone through -/
theorem mm_up (hX : mm_X B h pg S0) (hh : mm_h B h pg S0 N s k n mn ma ml S) (hg : ¬1000 ≤ s.2.1) : mm_h B h pg S0 N (s.1, s.2.1 + 1, s.2.2) k n mn ma ml (wd_i S 135 71 (Int32.ofNat (s.2.1 + 1))) := by
  obtain ⟨a1, a2, a3, a4, a5, a6, a7, a8, a9, a10, a11, a12, a13, a14, a15⟩ := hh
  have e : ∀ b, b ≠ 71 → (wd_i S 135 71 (Int32.ofNat (s.2.1 + 1))).1 135 b = S.1 135 b := fun b hb => fr_ne (by omega)
  have f : ∀ a b, a ≠ 135 → (wd_i S 135 71 (Int32.ofNat (s.2.1 + 1))).1 a b = S.1 a b := fun a b hb => fr_ne (by omega)
  refine ⟨of_trans a1 (of_i (Or.inl ⟨rfl, by omega⟩) of_refl), by rw [e 66 (by decide)]; exact a2, by rw [e 67 (by decide)]; exact a3, by rw [e 68 (by decide)]; exact a4, by rw [e 69 (by decide)]; exact a5, by rw [e 70 (by decide)]; exact a6, fr_eq, by rw [e 73 (by decide)]; exact a8, by rw [e 76 (by decide)]; exact a9, by rw [e 79 (by decide)]; exact a10, a11, a12, by show s.2.1 + 1 ≤ 1000; omega, fun i q hi => ?_, by rw [e 65 (by decide)]; exact a15.1, a15.2.1, fun j hj => ?_⟩
  · obtain ⟨b1, b2, b3, b4⟩ := a14 i q hi
    exact ⟨b1, by rw [f 169 i (by decide)]; exact b2, by rw [f 170 i (by decide)]; exact b3, b4⟩
  · obtain ⟨b1, b2, b3⟩ := a15.2.2 j hj
    exact ⟨by rw [f 159 _ (by decide)]; exact b1, by rw [f 160 _ (by decide)]; exact b2, fun i hi => by rw [f 161 _ (by decide)]; exact b3 i hi⟩
/-- a task more -/
theorem mm_h_p (hh : mm_h B h pg S0 N s k n mn ma ml S) : mm_h B h pg S0 N s (k + 1) n mn ma ml (ml_p k x v S) := by
  obtain ⟨a1, a2, a3, a4, a5, a6, a7, a8, a9, a10, a11, a12, a13⟩ := id hh
  have o := ml_o (k := k) (x := x) (v := v) (S := S)
  exact mm_hw (k0 := 0) (n0 := 0) (mn0 := 0) (ma0 := 0) hh (of_mono (fun a b z => by unfold mm_w; omega) o) (by rw [o.1 135 66 (by omega)]; exact a2) (by rw [o.1 135 67 (by omega)]; exact a3) (by rw [o.1 135 70 (by omega)]; exact a6) ml_76 (by rw [o.1 135 79 (by omega)]; exact a10) a11 a12
/-- a result more -/
theorem mm_h_g (hh : mm_h B h pg S0 N s k n mn ma ml S) : mm_h B h pg S0 N s k (n + 1) mn ma ml (mg_p n x v S) := by
  obtain ⟨a1, a2, a3, a4, a5, a6, a7, a8, a9, a10, a11, a12, a13⟩ := id hh
  have o := mg_o (n := n) (x := x) (v := v) (S := S)
  exact mm_hw (k0 := 0) (n0 := 0) (mn0 := 0) (ma0 := 0) hh (of_mono (fun a b z => by unfold mm_w; omega) o) (by rw [o.1 135 66 (by omega)]; exact a2) (by rw [o.1 135 67 (by omega)]; exact a3) (by rw [o.1 135 70 (by omega)]; exact a6) (by rw [o.1 135 76 (by omega)]; exact a9) mg_79 a11 a12
theorem mm_h_79 (hh : mm_h B h pg S0 N s k n mn ma ml S) : mm_h B h pg S0 N s k n' mn ma ml (wd_i S 135 79 (Int32.ofNat n')) := by
  obtain ⟨a1, a2, a3, a4, a5, a6, a7, a8, a9, a10, a11, a12, a13⟩ := id hh
  exact mm_hw (k0 := 0) (n0 := 0) (mn0 := 0) (ma0 := 0) hh (of_i (by unfold mm_w; omega) of_refl) (by rw [fr_ne (by omega)]; exact a2) (by rw [fr_ne (by omega)]; exact a3) (by rw [fr_ne (by omega)]; exact a6) (by rw [fr_ne (by omega)]; exact a9) fr_eq a11 a12
/-- a node of a result -/
theorem mm_node (hX : mm_X B h pg S0) (hh : mm_h B h pg S0 N s k n mn ma ml S) (hp : p < 4000) (hr : mm_r B mn ma d p R S) (hd : 1 ≤ d) (hmn : mn + 1 ≤ 1000) : ∃ z S', fn_Mo_nodeOf (Int32.ofNat p) S = some (Int32.ofNat z, S') ∧ mm_h B h pg S0 N s k n (mn + if tr_k R.1 = 1 then 1 else 0) ma ml S' ∧ mm_t B (mn + if tr_k R.1 = 1 then 1 else 0) ma d z R.1 S' ∧ of_f (fun a b => (a = 135 ∧ b = 66) ∨ (143 ≤ a ∧ a ≤ 146 ∧ b = 3004 + 6002 * B + mn)) S S' := by
  have hB := hX.1
  obtain ⟨d, rfl⟩ : ∃ e, d = e + 1 := ⟨d - 1, by omega⟩
  unfold fn_Mo_nodeOf
  simp only [wd_b]
  rw [im_t (show p < 2147483648 by omega)]
  simp only [if_neg (ms_iy hp (show 4000 < 2147483648 by decide))]
  rcases hr with ⟨h1, h2, h3, h4⟩ | ⟨h1, h2, z, h3, h4⟩
  · obtain ⟨a1, a2, a3, a4, a5, a6, a7, a8, a9, a10, a11, a12, a13⟩ := id hh
    rw [h2, if_neg (show ¬(1 : Int32) = 0 by decide), mm_fresh hB (mm_64 hX a1) a2 (by omega), wd_c_s, if_neg (ms_in (show 3004 + 6002 * B + mn < 15010 by omega) (by decide)), im_t (show 3004 + 6002 * B + mn < 2147483648 by omega), fr_ne (by omega), fr_ne (by omega), h3, if_pos h1]
    generalize hS1 : wd_i (wd_i (wd_i S 135 66 (Int32.ofNat (mn + 1))) 143 (3004 + 6002 * B + mn) 5) 144 (3004 + 6002 * B + mn) (tr_v R.1) = S1
    have o : of_f (fun a b => (a = 135 ∧ b = 66) ∨ (143 ≤ a ∧ a ≤ 146 ∧ b = 3004 + 6002 * B + mn)) S S1 := by
      rw [← hS1]
      exact of_i (by omega) (of_i (by omega) (of_i (by omega) of_refl))
    refine ⟨3004 + 6002 * B + mn, S1, rfl, mm_hw (k0 := 0) (n0 := 0) (mn0 := 0) (ma0 := 0) hh (of_mono (fun a b z => by unfold mm_w; omega) o) (by rw [← hS1, fr_ne (by omega), fr_ne (by omega), fr_eq]) (by rw [o.1 135 67 (by omega)]; exact a3) (by rw [o.1 135 70 (by omega)]; exact a6) (by rw [o.1 135 76 (by omega)]; exact a9) (by rw [o.1 135 79 (by omega)]; exact a10) (by omega) a12, ⟨by omega, by omega, Or.inl ⟨h1, h4, by rw [← hS1, fr_ne (by omega), fr_eq], by rw [← hS1, fr_eq]⟩⟩, o⟩
  · rw [h2, if_pos rfl, h3]
    refine ⟨z, S, rfl, ?_, ?_, of_refl⟩
    · rw [if_neg h1]; exact hh
    · rw [if_neg h1]; exact h4
end Mm2
end
/-! part b12 -/
section
/-! The reference's maker: what is asked of an EXPRESSION. -/
section Mm3
variable {B h : Nat} {pg : pg_T} {S0 S S' S1 S2 : wd_S} {N N' : mk_N} {s s' : mk_S} {k n mn ma ml k' n' mn' ma' ml' y z d r c p : Nat} {t : tr_T} {x v : Int32} {R : mk_R}
theorem mm_mk1 : fn_Mo_onMaking 1 v S = fn_Mo_onEv v S := by
  unfold fn_Mo_onMaking fn_Mo_onMaking_566
  rw [if_pos rfl]
  exact wd_d_id _
/-- the beginning of onEv -/
theorem mm_ev0 (hg : ¬1000 ≤ s.2.1) (h71 : S.1 135 71 = Int32.ofNat s.2.1) : ¬S.1 135 71 = 1000 := by
  rw [h71]
  exact fun q => by have := (im_eq (m := s.2.1) (n := 1000) (by omega) (by omega)).mp q; omega
theorem mm_ev5 (hy : y < 15010) (hg : ¬S.1 135 71 = 1000) (h143 : S.1 143 y = 5) : fn_Mo_onEv (Int32.ofNat y) S = fn_Mo_gives 1 (S.1 144 y) (wd_i S 135 71 (S.1 135 71 + 1)) := by
  have e : (wd_i S 135 71 (S.1 135 71 + 1)).1 143 y = 5 := by rw [fr_ne (by omega)]; exact h143
  unfold fn_Mo_onEv fn_Mo_onEv_272
  simp only [wd_b]
  rw [if_neg hg, if_neg (ms_in hy (by decide)), im_t (show y < 2147483648 by omega), e, if_neg (by decide), if_neg (by decide), if_neg (by decide), if_neg (by decide), if_pos rfl, if_neg (ms_iy hy (by decide)), fr_ne (by omega)]
  exact wd_d_id _
theorem mm_ev7 (hy : y < 15010) (hg : ¬S.1 135 71 = 1000) (h143 : S.1 143 y = 7) {i : Nat} (hi : i < 16) (h144 : S.1 144 y = Int32.ofNat i) : fn_Mo_onEv (Int32.ofNat y) S = if S.1 169 i = 0 then (wd_c (fn_Mo_fresh 7 (wd_i S 135 71 (S.1 135 71 + 1))) fun x58 S57 => if Int32.ofNat y < 0 ∨ 15010 ≤ (Int32.ofNat y).toNatClampNeg then none else if (S57.1 144 (Int32.ofNat y).toNatClampNeg) < 0 ∨ 16 ≤ (S57.1 144 (Int32.ofNat y).toNatClampNeg).toNatClampNeg then none else if x58 < 0 ∨ 15010 ≤ x58.toNatClampNeg then none else fn_Mo_gives 0 x58 (wd_i S57 144 x58.toNatClampNeg (S57.1 170 (S57.1 144 (Int32.ofNat y).toNatClampNeg).toNatClampNeg))) else fn_Mo_gives 1 (S.1 170 i) (wd_i S 135 71 (S.1 135 71 + 1)) := by
  have e : (wd_i S 135 71 (S.1 135 71 + 1)).1 143 y = 7 := by rw [fr_ne (by omega)]; exact h143
  have e4 : (wd_i S 135 71 (S.1 135 71 + 1)).1 144 y = Int32.ofNat i := by rw [fr_ne (by omega)]; exact h144
  unfold fn_Mo_onEv fn_Mo_onEv_272
  simp only [wd_b, wd_d_id]
  rw [if_neg hg, if_neg (ms_in hy (by decide)), im_t (show y < 2147483648 by omega), e, if_neg (by decide), if_neg (by decide), if_neg (by decide), if_neg (by decide), if_neg (by decide), if_neg (by decide), if_pos rfl, if_neg (ms_iy hy (by decide)), e4, if_neg (ms_in hi (by decide)), im_t (show i < 2147483648 by omega), fr_ne (by omega), if_neg (ms_iy hy (by decide)), if_neg (ms_iy hi (by decide)), fr_ne (by omega)]
theorem mm_ev1 (hy : y < 15010) (hg : ¬S.1 135 71 = 1000) (h143 : S.1 143 y = 1) (hk : S.1 135 76 = Int32.ofNat k) (h4 : k + 3 ≤ 4000) : fn_Mo_onEv (Int32.ofNat y) S = some (ml_p (k + 2) 1 (S.1 144 y) (ml_p (k + 1) 1 (S.1 145 y) (ml_p k 2 (Int32.ofNat y) (wd_i S 135 71 (S.1 135 71 + 1))))) := by
  have e : (wd_i S 135 71 (S.1 135 71 + 1)).1 143 y = 1 := by rw [fr_ne (by omega)]; exact h143
  unfold fn_Mo_onEv fn_Mo_onEv_272
  simp only [wd_b]
  rw [if_neg hg, if_neg (ms_in hy (by decide)), im_t (show y < 2147483648 by omega), e, if_pos rfl, mm_later (k := k) (by rw [fr_ne (by omega)]; exact hk) (by omega), wd_d_s, if_neg (ms_iy hy (by decide)), mm_later ml_76 (by omega), wd_d_s, if_neg (ms_iy hy (by decide)), mm_later ml_76 (by omega), wd_d_s, ml_row (by decide) (by decide) (by decide), ml_row (by decide) (by decide) (by decide), ml_row (by decide) (by decide) (by decide), fr_ne (by omega), fr_ne (by omega)]
theorem mm_ev2 (hy : y < 15010) (hg : ¬S.1 135 71 = 1000) (h143 : S.1 143 y = 2) (hk : S.1 135 76 = Int32.ofNat k) (h4 : k + 3 ≤ 4000) : fn_Mo_onEv (Int32.ofNat y) S = some (ml_p (k + 1) 1 (S.1 144 y) (ml_p k 3 (Int32.ofNat y) (wd_i S 135 71 (S.1 135 71 + 1)))) := by
  have e : (wd_i S 135 71 (S.1 135 71 + 1)).1 143 y = 2 := by rw [fr_ne (by omega)]; exact h143
  unfold fn_Mo_onEv fn_Mo_onEv_272
  simp only [wd_b]
  rw [if_neg hg, if_neg (ms_in hy (by decide)), im_t (show y < 2147483648 by omega), e, if_neg (by decide), if_pos rfl, mm_later (k := k) (by rw [fr_ne (by omega)]; exact hk) (by omega), wd_d_s, if_neg (ms_iy hy (by decide)), mm_later ml_76 (by omega), wd_d_s, ml_row (by decide) (by decide) (by decide), fr_ne (by omega)]
theorem mm_ev3 (hy : y < 15010) (hg : ¬S.1 135 71 = 1000) (h143 : S.1 143 y = 3) (hk : S.1 135 76 = Int32.ofNat k) (h4 : k + 3 ≤ 4000) : fn_Mo_onEv (Int32.ofNat y) S = some (ml_p (k + 1) 1 (S.1 144 y) (ml_p k 6 (Int32.ofNat y) (wd_i S 135 71 (S.1 135 71 + 1)))) := by
  have e : (wd_i S 135 71 (S.1 135 71 + 1)).1 143 y = 3 := by rw [fr_ne (by omega)]; exact h143
  unfold fn_Mo_onEv fn_Mo_onEv_272
  simp only [wd_b]
  rw [if_neg hg, if_neg (ms_in hy (by decide)), im_t (show y < 2147483648 by omega), e, if_neg (by decide), if_neg (by decide), if_pos rfl, mm_later (k := k) (by rw [fr_ne (by omega)]; exact hk) (by omega), wd_d_s, if_neg (ms_iy hy (by decide)), mm_later ml_76 (by omega), wd_d_s, ml_row (by decide) (by decide) (by decide), fr_ne (by omega)]
/-- the arguments of a call, the last one first -/
theorem mm_244 (hy : y < 15010) {g a : Nat} (hga : g + a ≤ 15010) : ∀ (q F : Nat) (S1 : wd_S) (k1 : Nat), q ≤ a → q < F → k1 + q ≤ 4000 → S1.1 135 76 = Int32.ofNat k1 → S1.1 144 y = Int32.ofNat g → ∃ S', fn_Mo_onEv_244 F (Int32.ofNat y) (Int32.ofNat q - 1) S1 = some S' ∧ S'.1 135 76 = Int32.ofNat (k1 + q) ∧ (∀ j, j < q → S'.1 165 (k1 + (q - 1 - j)) = 1 ∧ S'.1 166 (k1 + (q - 1 - j)) = S1.1 149 (g + j)) ∧ of_f (fun a' b => (a' = 135 ∧ b = 76) ∨ ((a' = 165 ∨ a' = 166) ∧ k1 ≤ b)) S1 S' := by
  intro q
  induction q with
  | zero =>
    intro F S1 k1 _ hF _ h76 _
    obtain ⟨F, rfl⟩ : ∃ f, F = f + 1 := ⟨F - 1, by omega⟩
    refine ⟨S1, ?_, h76, fun j hj => absurd hj (Nat.not_lt_zero _), of_refl⟩
    rw [fn_Mo_onEv_244, if_pos (show Int32.ofNat 0 - 1 < 0 by decide)]
    rfl
  | succ q ih =>
    intro F S1 k1 hq hF hk h76 h144
    obtain ⟨F, rfl⟩ : ∃ f, F = f + 1 := ⟨F - 1, by omega⟩
    have ea : Int32.ofNat g + Int32.ofNat q = Int32.ofNat (g + q) := (Int32.ofNat_add g q).symm
    rw [fn_Mo_onEv_244, im_p, if_neg (im_neg (by omega)), if_neg (ms_in hy (by decide)), im_t (show y < 2147483648 by omega), h144, ea, if_neg (ms_in (show g + q < 15010 by omega) (by decide)), im_t (show g + q < 2147483648 by omega), mm_later h76 (by omega), wd_d_s, show Int32.ofNat q + -1 = Int32.ofNat q - 1 by rw [Int32.sub_eq_add_neg]]
    obtain ⟨S2, f2, e2, s2, o2⟩ := ih F (ml_p k1 1 (S1.1 149 (g + q)) S1) (k1 + 1) (by omega) (by omega) (by omega) ml_76 (by rw [ml_row (by decide) (by decide) (by decide)]; exact h144)
    refine ⟨S2, f2, by rw [e2]; congr 1; omega, fun j hj => ?_, of_trans (of_mono (fun a b z => by omega) ml_o) (of_mono (fun a b z => by omega) o2)⟩
    by_cases e : j = q
    · subst e
      rw [show k1 + (j + 1 - 1 - j) = k1 by omega, o2.1 165 k1 (by omega), o2.1 166 k1 (by omega), ml_165, ml_166, if_pos rfl, if_pos rfl]
      exact ⟨rfl, rfl⟩
    · obtain ⟨t1, t2⟩ := s2 j (by omega)
      rw [show k1 + 1 + (q - 1 - j) = k1 + (q + 1 - 1 - j) by omega] at t1 t2
      exact ⟨t1, by rw [t2, ml_row (by decide) (by decide) (by decide)]⟩
theorem mm_ev8 (hy : y < 15010) (hg : ¬S.1 135 71 = 1000) (h143 : S.1 143 y = 8) (hk : S.1 135 76 = Int32.ofNat k) (h4 : k + 6 ≤ 4000) {g a : Nat} (ha : a ≤ 4) (hga : g + a ≤ 15010) (h144 : S.1 144 y = Int32.ofNat g) (h145 : S.1 145 y = Int32.ofNat a) : ∃ S', fn_Mo_onEv (Int32.ofNat y) S = some S' ∧ S'.1 135 76 = Int32.ofNat (k + 1 + a) ∧ S'.1 165 k = 7 ∧ S'.1 166 k = Int32.ofNat y ∧ (∀ j, j < a → S'.1 165 (k + 1 + (a - 1 - j)) = 1 ∧ S'.1 166 (k + 1 + (a - 1 - j)) = S.1 149 (g + j)) ∧ of_f (fun a' b => (a' = 135 ∧ b = 76) ∨ ((a' = 165 ∨ a' = 166) ∧ k ≤ b)) (wd_i S 135 71 (S.1 135 71 + 1)) S' := by
  have e : (wd_i S 135 71 (S.1 135 71 + 1)).1 143 y = 8 := by rw [fr_ne (by omega)]; exact h143
  unfold fn_Mo_onEv fn_Mo_onEv_272
  simp only [wd_b]
  rw [if_neg hg, if_neg (ms_in hy (by decide)), im_t (show y < 2147483648 by omega), e, if_neg (by decide), if_neg (by decide), if_neg (by decide), if_neg (by decide), if_neg (by decide), if_neg (by decide), if_neg (by decide), mm_later (k := k) (by rw [fr_ne (by omega)]; exact hk) (by omega), wd_d_s, if_neg (ms_iy hy (by decide)), ml_row (by decide) (by decide) (by decide), fr_ne (by omega), h145]
  obtain ⟨S2, f2, e2, s2, o2⟩ := mm_244 hy hga a wd_F (ml_p k 7 (Int32.ofNat y) (wd_i S 135 71 (S.1 135 71 + 1))) (k + 1) (Nat.le_refl _) (by rw [show wd_F = 1000000 from rfl]; omega) (by omega) ml_76 (by rw [ml_row (by decide) (by decide) (by decide), fr_ne (by omega)]; exact h144)
  refine ⟨S2, f2, e2, by rw [o2.1 165 k (by omega), ml_165, if_pos rfl], by rw [o2.1 166 k (by omega), ml_166, if_pos rfl], fun j hj => ⟨(s2 j hj).1, ?_⟩, of_trans (of_mono (fun a b z => by omega) ml_o) (of_mono (fun a b z => by omega) o2)⟩
  rw [(s2 j hj).2, ml_row (by decide) (by decide) (by decide), fr_ne (by omega)]
end Mm3
end
/-! part b13 -/
section
/-! The reference's maker: signs, choices, lets. -/
theorem im_sb (n m : Nat) : Int32.ofNat (n + m) - Int32.ofNat m = Int32.ofNat n := by rw [Int32.ofNat_add, Int32.add_sub_cancel]
def mm_i (R : mk_R) : Nat := if tr_k R.1 = 1 then 1 else 0
theorem mm_nzi {R : mk_R} (h : mk_nn R) : mm_nz R + mm_i R = R.2.1 := by
  unfold mm_nz mm_i
  by_cases e : tr_k R.1 = 1
  · rw [if_pos e, if_pos e, h e]
  · rw [if_neg e, if_neg e]; rfl
theorem mm_i1 (R : mk_R) : mm_i R ≤ 1 := by
  unfold mm_i
  split <;> omega
section Mm4
variable {B h : Nat} {pg : pg_T} {S0 S S' S1 S2 S3 : wd_S} {N N' : mk_N} {s s' : mk_S} {k n mn ma ml k' n' mn' ma' ml' mn1 ma1 ml1 y z z1 z2 z3 d r c p : Nat} {t T1 T2 T3 : tr_T} {x v : Int32} {R R1 R2 R3 : mk_R}
theorem mm_close (hh : mm_h B h pg S0 N s k (n + 1) mn1 ma1 ml1 S') (hk : ¬tr_k R.1 = 1) (hmn : mn1 = mn + R.2.1) (hma : ma1 + 1 ≤ R.2.1 + ma) (hma0 : ma ≤ ma1) (hml : ml1 = ml + R.2.2) (h167 : S'.1 167 n = 0) (h168 : S'.1 168 n = Int32.ofNat z) (ht : mm_t B mn1 ma1 r z R.1 S') (ho : of_f (mm_F B k n mn ma) S S') (hg : mm_go 1 S S') (hc : c + 1 ≤ 3 * s.2.1) : mm_O B h pg S0 r k n mn ma ml c (.ok (R, N, s)) S := by
  have e : mm_nz R = R.2.1 := if_neg hk
  subst hmn hml
  refine ⟨1, S', hg, by show 1 + c ≤ 3 * s.2.1; omega, ma1, ?_, ?_, hma0, ?_, ho⟩
  · show mm_h B h pg S0 N s k (n + 1) (mn + mm_nz R) ma1 (ml + R.2.2) S'
    rw [e]; exact hh
  · show if tr_k R.1 = 1 then ma1 = ma else ma1 + 1 ≤ mm_nz R + ma
    rw [if_neg hk, e]; exact hma
  · refine Or.inr ⟨hk, h167, z, h168, ?_⟩
    show mm_t B (mn + mm_nz R) ma1 r z R.1 S'
    rw [e]; exact ht
theorem mm_close_n (hh : mm_h B h pg S0 N s k (n + 1) mn ma ml S') (h167 : S'.1 167 n = 1) (h168 : S'.1 168 n = v) (ho : of_f (mm_F B k n mn ma) S S') (hg : mm_go 1 S S') (hc : c + 1 ≤ 3 * s.2.1) : mm_O B h pg S0 r k n mn ma ml c (.ok (mk_n v, N, s)) S := ⟨1, S', hg, by show 1 + c ≤ 3 * s.2.1; omega, ma, hh, rfl, Nat.le_refl _, Or.inl ⟨rfl, h167, h168, rfl⟩, ho⟩
/-- a node with three fields -/
theorem mm_mk (hX : mm_X B h pg S0) (hh : mm_h B h pg S0 N s k n mn ma ml S) (hmn : mn + 1 ≤ 1000) {κ a b e : Int32} : mm_h B h pg S0 N s k n (mn + 1) ma ml (wd_i (wd_i (wd_i (wd_i (wd_i S 135 66 (Int32.ofNat (mn + 1))) 143 (3004 + 6002 * B + mn) κ) 144 (3004 + 6002 * B + mn) a) 145 (3004 + 6002 * B + mn) b) 146 (3004 + 6002 * B + mn) e) ∧ of_f (fun a b => (a = 135 ∧ b = 66) ∨ (143 ≤ a ∧ a ≤ 146 ∧ b = 3004 + 6002 * B + mn)) S (wd_i (wd_i (wd_i (wd_i (wd_i S 135 66 (Int32.ofNat (mn + 1))) 143 (3004 + 6002 * B + mn) κ) 144 (3004 + 6002 * B + mn) a) 145 (3004 + 6002 * B + mn) b) 146 (3004 + 6002 * B + mn) e) ∧ (wd_i (wd_i (wd_i (wd_i (wd_i S 135 66 (Int32.ofNat (mn + 1))) 143 (3004 + 6002 * B + mn) κ) 144 (3004 + 6002 * B + mn) a) 145 (3004 + 6002 * B + mn) b) 146 (3004 + 6002 * B + mn) e).1 143 (3004 + 6002 * B + mn) = κ ∧ (wd_i (wd_i (wd_i (wd_i (wd_i S 135 66 (Int32.ofNat (mn + 1))) 143 (3004 + 6002 * B + mn) κ) 144 (3004 + 6002 * B + mn) a) 145 (3004 + 6002 * B + mn) b) 146 (3004 + 6002 * B + mn) e).1 144 (3004 + 6002 * B + mn) = a ∧ (wd_i (wd_i (wd_i (wd_i (wd_i S 135 66 (Int32.ofNat (mn + 1))) 143 (3004 + 6002 * B + mn) κ) 144 (3004 + 6002 * B + mn) a) 145 (3004 + 6002 * B + mn) b) 146 (3004 + 6002 * B + mn) e).1 145 (3004 + 6002 * B + mn) = b ∧ (wd_i (wd_i (wd_i (wd_i (wd_i S 135 66 (Int32.ofNat (mn + 1))) 143 (3004 + 6002 * B + mn) κ) 144 (3004 + 6002 * B + mn) a) 145 (3004 + 6002 * B + mn) b) 146 (3004 + 6002 * B + mn) e).1 146 (3004 + 6002 * B + mn) = e := by
  have hB := hX.1
  generalize hS1 : wd_i (wd_i (wd_i (wd_i (wd_i S 135 66 (Int32.ofNat (mn + 1))) 143 (3004 + 6002 * B + mn) κ) 144 (3004 + 6002 * B + mn) a) 145 (3004 + 6002 * B + mn) b) 146 (3004 + 6002 * B + mn) e = S1
  have o : of_f (fun a b => (a = 135 ∧ b = 66) ∨ (143 ≤ a ∧ a ≤ 146 ∧ b = 3004 + 6002 * B + mn)) S S1 := by
    rw [← hS1]
    exact of_i (by omega) (of_i (by omega) (of_i (by omega) (of_i (by omega) (of_i (by omega) of_refl))))
  obtain ⟨a1, a2, a3, a4, a5, a6, a7, a8, a9, a10, a11, a12, a13⟩ := id hh
  refine ⟨mm_hw (k0 := 0) (n0 := 0) (mn0 := 0) (ma0 := 0) hh (of_mono (fun a b z => by unfold mm_w; omega) o) ?_ (by rw [o.1 135 67 (by omega)]; exact a3) (by rw [o.1 135 70 (by omega)]; exact a6) (by rw [o.1 135 76 (by omega)]; exact a9) (by rw [o.1 135 79 (by omega)]; exact a10) hmn a12, o, ?_, ?_, ?_, ?_⟩
  · rw [← hS1, fr_ne (by omega), fr_ne (by omega), fr_ne (by omega), fr_ne (by omega), fr_eq]
  · rw [← hS1, fr_ne (by omega), fr_ne (by omega), fr_ne (by omega), fr_eq]
  · rw [← hS1, fr_ne (by omega), fr_ne (by omega), fr_eq]
  · rw [← hS1, fr_ne (by omega), fr_eq]
  · rw [← hS1, fr_eq]
theorem mm_nw (hX : mm_X B h pg S0) (hmn : mn ≤ 1000) (ho : of_f (fun a b => (a = 135 ∧ b = 66) ∨ (143 ≤ a ∧ a ≤ 146 ∧ b = 3004 + 6002 * B + mn)) S S') {k0 n0 mn0 ma0 : Nat} (h0 : mn0 ≤ mn) : of_f (mm_F B k0 n0 mn0 ma0) S S' := of_mono (fun a b z => mm_w_F a b (by unfold mm_w; omega)) ho
theorem mm_cfg (hX : mm_X B h pg S0) (hh : mm_h B h pg S0 N s k n mn ma ml S) (hmn : mn + 1 ≤ 1000) {κ : Int32} : fn_Mo_fresh κ S = some (Int32.ofNat (3004 + 6002 * B + mn), wd_i (wd_i S 135 66 (Int32.ofNat (mn + 1))) 143 (3004 + 6002 * B + mn) κ) := mm_fresh hX.1 (mm_64 hX hh.1) hh.2.1 (by omega)
/-- SIGNED -/
theorem mm_sgn (hX : mm_X B h pg S0) (hh : mm_h B h pg S0 N s (k + 1) (n + 2) mn1 ma1 ml1 S) (hk : k < 4000) (hn : n + 2 ≤ 4000) (h165 : S.1 165 k = 2) (h166 : S.1 166 k = Int32.ofNat y) (hy : y < 3004) {kd : Int32} (hkd : kd = 6 ∨ kd = 7 ∨ kd = 8 ∨ kd = 9 ∨ kd = 10) (h146 : S.1 146 y = lx_cv kd) (hr : 1 ≤ r) (r1 : mm_r B mn1 ma1 r n R1 S) (r2 : mm_r B mn1 ma1 r (n + 1) R2 S) (n1 : mk_nn R1) (n2 : mk_nn R2) (hmn : mn1 = mn + mm_nz R1 + mm_nz R2) (hma : ma1 ≤ mm_nz R1 + mm_nz R2 + ma) (hma0 : ma ≤ ma1) (hml : ml1 = ml + R1.2.2 + R2.2.2) (hb : mn + 1 + R1.2.1 + R2.2.1 ≤ 1000) (hc : c + 1 ≤ 3 * s.2.1) : mm_O B h pg S0 (r + 1) k n mn ma ml c (if tr_k R1.1 = 1 ∧ tr_k R2.1 = 1 then .ok (mk_n (ev_sg kd (tr_v R1.1) (tr_v R2.1)), N, s) else .ok ((tr_2 kd 0 0 R1.1 R2.1, 1 + R1.2.1 + R2.2.1, R1.2.2 + R2.2.2), N, s)) S := by
  have hB := hX.1
  have z1 := mm_nzi n1
  have z2 := mm_nzi n2
  have i1 := mm_i1 R1
  have i2 := mm_i1 R2
  have h1 := mm_pop_h hh
  have h2 : mm_h B h pg S0 N s k n mn1 ma1 ml1 (wd_i (wd_i S 135 76 (Int32.ofNat k)) 135 79 (Int32.ofNat n)) := mm_h_79 h1
  have e79 : (wd_i S 135 76 (Int32.ofNat k)).1 135 79 - 2 = Int32.ofNat n := by
    rw [h1.2.2.2.2.2.2.2.2.2.1]
    exact im_sb n 2
  have o2 : ∀ k0 n0, of_f (mm_F B k0 n0 mn1 ma1) S (wd_i (wd_i S 135 76 (Int32.ofNat k)) 135 79 (Int32.ofNat n)) := fun k0 n0 => of_i (Or.inl ⟨rfl, by omega⟩) (of_i (Or.inl ⟨rfl, by omega⟩) of_refl)
  have r1' := mm_r_o (o2 0 (n + 2)) (show n < n + 2 by omega) (Nat.le_refl _) (Nat.le_refl _) r1
  have r2' := mm_r_o (o2 0 (n + 2)) (show n + 1 < n + 2 by omega) (Nat.le_refl _) (Nat.le_refl _) r2
  have y146 : (wd_i (wd_i S 135 76 (Int32.ofNat k)) 135 79 (Int32.ofNat n)).1 146 y = lx_cv kd := by rw [fr_ne (by omega), fr_ne (by omega)]; exact h146
  have q79 : (wd_i (wd_i S 135 76 (Int32.ofNat k)) 135 79 (Int32.ofNat n)).1 135 79 = Int32.ofNat n := fr_eq
  have ep : ∀ S', fn_Mo_onMaking 2 (Int32.ofNat y) (wd_i S 135 76 (Int32.ofNat k)) = some S' → mm_go 1 S S' := fun S' q => mm_pop hh hk (by rw [h165, h166]; exact q)
  have ef : fn_Mo_onMaking 2 (Int32.ofNat y) (wd_i S 135 76 (Int32.ofNat k)) = if (wd_i (wd_i S 135 76 (Int32.ofNat k)) 135 79 (Int32.ofNat n)).1 167 n = 0 then fn_Mo_onMaking_121 (Int32.ofNat y) (wd_i (wd_i S 135 76 (Int32.ofNat k)) 135 79 (Int32.ofNat n)) else if (wd_i (wd_i S 135 76 (Int32.ofNat k)) 135 79 (Int32.ofNat n)).1 167 (n + 1) = 0 then fn_Mo_onMaking_121 (Int32.ofNat y) (wd_i (wd_i S 135 76 (Int32.ofNat k)) 135 79 (Int32.ofNat n)) else fn_Mo_gives 1 (ev_sg kd ((wd_i (wd_i S 135 76 (Int32.ofNat k)) 135 79 (Int32.ofNat n)).1 168 n) ((wd_i (wd_i S 135 76 (Int32.ofNat k)) 135 79 (Int32.ofNat n)).1 168 (n + 1))) (wd_i (wd_i S 135 76 (Int32.ofNat k)) 135 79 (Int32.ofNat n)) := by
    unfold fn_Mo_onMaking
    rw [if_neg (show ¬(2 : Int32) = 1 by decide), if_pos rfl]
    unfold fn_Mo_onMaking_566
    simp only [wd_b]
    rw [e79, q79, if_neg (ms_in (show n < 4000 by omega) (by decide)), im_s, if_neg (ms_in (show n + 1 < 4000 by omega) (by decide)), im_t (show n < 2147483648 by omega), im_t (show n + 1 < 2147483648 by omega), if_neg (ms_in (show y < 15010 by omega) (by decide)), if_neg (ms_iy (show n < 4000 by omega) (by decide)), if_neg (ms_iy (show n + 1 < 4000 by omega) (by decide)), im_t (show y < 2147483648 by omega), y146, mo_appl hkd, wd_c_s, wd_d_id]
  generalize wd_i (wd_i S 135 76 (Int32.ofNat k)) 135 79 (Int32.ofNat n) = S2 at *
  have hno : ¬(tr_k R1.1 = 1 ∧ tr_k R2.1 = 1) → fn_Mo_onMaking 2 (Int32.ofNat y) (wd_i S 135 76 (Int32.ofNat k)) = fn_Mo_onMaking_121 (Int32.ofNat y) S2 → mm_O B h pg S0 (r + 1) k n mn ma ml c (.ok ((tr_2 kd 0 0 R1.1 R2.1, 1 + R1.2.1 + R2.2.1, R1.2.2 + R2.2.2), N, s)) S := fun hno e121 => by
    obtain ⟨x1, S3, f3, h3, t3, o3⟩ := mm_node hX h2 (show n < 4000 by omega) r1' hr (by omega)
    have h3 : mm_h B h pg S0 N s k n (mn1 + mm_i R1) ma1 ml1 S3 := h3
    have t3 : mm_t B (mn1 + mm_i R1) ma1 r x1 R1.1 S3 := t3
    have r2'' : mm_r B (mn1 + mm_i R1) ma1 r (n + 1) R2 S3 := mm_r_o (k0 := 0) (n0 := n + 2) (mm_nw hX (by omega) o3 (Nat.le_refl _)) (show n + 1 < n + 2 by omega) (Nat.le_add_right _ _) (Nat.le_refl _) r2'
    obtain ⟨x2, S4, f4, h4, t4, o4⟩ := mm_node hX h3 (show n + 1 < 4000 by omega) r2'' hr (by omega)
    have h4 : mm_h B h pg S0 N s k n (mn1 + mm_i R1 + mm_i R2) ma1 ml1 S4 := h4
    have t4 : mm_t B (mn1 + mm_i R1 + mm_i R2) ma1 r x2 R2.1 S4 := t4
    obtain ⟨h5, o5, g3, g4, g5, g6⟩ := mm_mk hX h4 (by omega) (κ := 1) (a := Int32.ofNat x1) (b := Int32.ofNat x2) (e := lx_cv kd)
    have y146' : S4.1 146 y = lx_cv kd := by rw [o4.1 146 y (by omega), o3.1 146 y (by omega)]; exact y146
    have e79' : S3.1 135 79 = Int32.ofNat n := h3.2.2.2.2.2.2.2.2.2.1
    have e5 : fn_Mo_onMaking_121 (Int32.ofNat y) S2 = fn_Mo_gives 0 (Int32.ofNat (3004 + 6002 * B + (mn1 + mm_i R1 + mm_i R2))) (wd_i (wd_i (wd_i (wd_i (wd_i S4 135 66 (Int32.ofNat (mn1 + mm_i R1 + mm_i R2 + 1))) 143 (3004 + 6002 * B + (mn1 + mm_i R1 + mm_i R2)) 1) 144 (3004 + 6002 * B + (mn1 + mm_i R1 + mm_i R2)) (Int32.ofNat x1)) 145 (3004 + 6002 * B + (mn1 + mm_i R1 + mm_i R2)) (Int32.ofNat x2)) 146 (3004 + 6002 * B + (mn1 + mm_i R1 + mm_i R2)) (lx_cv kd)) := by
      unfold fn_Mo_onMaking_121 fn_Mo_onMaking_566
      simp only [wd_b]
      rw [q79, f3, wd_c_s, e79', im_s, f4, wd_c_s, mm_cfg hX h4 (by omega), wd_c_s, if_neg (ms_in (show 3004 + 6002 * B + (mn1 + mm_i R1 + mm_i R2) < 15010 by omega) (by decide)), if_neg (ms_in (show 3004 + 6002 * B + (mn1 + mm_i R1 + mm_i R2) < 15010 by omega) (by decide)), if_neg (ms_in (show y < 15010 by omega) (by decide)), if_neg (ms_in (show 3004 + 6002 * B + (mn1 + mm_i R1 + mm_i R2) < 15010 by omega) (by decide)), im_t (show 3004 + 6002 * B + (mn1 + mm_i R1 + mm_i R2) < 2147483648 by omega), im_t (show y < 2147483648 by omega), fr_ne (show ¬(146 = 145 ∧ _) by omega), fr_ne (show ¬(146 = 144 ∧ _) by omega), fr_ne (show ¬(146 = 143 ∧ _) by omega), fr_ne (show ¬(146 = 135 ∧ _) by omega), y146', wd_d_id]
    generalize wd_i (wd_i (wd_i (wd_i (wd_i S4 135 66 (Int32.ofNat (mn1 + mm_i R1 + mm_i R2 + 1))) 143 (3004 + 6002 * B + (mn1 + mm_i R1 + mm_i R2)) 1) 144 (3004 + 6002 * B + (mn1 + mm_i R1 + mm_i R2)) (Int32.ofNat x1)) 145 (3004 + 6002 * B + (mn1 + mm_i R1 + mm_i R2)) (Int32.ofNat x2)) 146 (3004 + 6002 * B + (mn1 + mm_i R1 + mm_i R2)) (lx_cv kd) = S5 at *
    have w4 := mm_nw hX (by omega) o4 (k0 := k) (n0 := n) (mn0 := mn1 + mm_i R1) (ma0 := ma1) (by omega)
    have w5 := mm_nw hX (by omega) o5 (k0 := k) (n0 := n) (mn0 := mn1 + mm_i R1 + mm_i R2) (ma0 := ma1) (by omega)
    have t3' := mm_t_o w5 (mn' := mn1 + mm_i R1 + mm_i R2 + 1) (by omega) (Nat.le_refl _) (mm_t_o w4 (mn' := mn1 + mm_i R1 + mm_i R2) (by omega) (Nat.le_refl _) t3)
    have t4' := mm_t_o w5 (mn' := mn1 + mm_i R1 + mm_i R2 + 1) (by omega) (Nat.le_refl _) t4
    have og := mg_o (n := n) (x := 0) (v := Int32.ofNat (3004 + 6002 * B + (mn1 + mm_i R1 + mm_i R2))) (S := S5)
    have w6 : of_f (mm_F B k n (mn1 + mm_i R1 + mm_i R2 + 1) ma1) S5 (mg_p n 0 (Int32.ofNat (3004 + 6002 * B + (mn1 + mm_i R1 + mm_i R2))) S5) := of_mono (fun a b z => mm_w_F a b (by unfold mm_w; omega)) og
    refine mm_close (z := 3004 + 6002 * B + (mn1 + mm_i R1 + mm_i R2)) (mm_h_g h5) (show ¬kd = 1 by rcases hkd with z | z | z | z | z <;> rw [z] <;> decide) ?_ ?_ hma0 ?_ mg_167 mg_168 (mm_t_o w6 (Nat.le_refl _) (Nat.le_refl _) ⟨by omega, by omega, Or.inr (Or.inr (Or.inr (Or.inr (Or.inr ⟨hkd, rfl, g3, g6, x1, x2, g4, g5, t3', t4'⟩))))⟩) ?_ (ep _ (by rw [e121, e5]; exact mm_gives (h5.2.2.2.2.2.2.2.2.2.1) (by omega) (Or.inl rfl))) hc
    · show _ = mn + (1 + R1.2.1 + R2.2.1)
      omega
    · show _ ≤ 1 + R1.2.1 + R2.2.1 + ma
      omega
    · show ml1 = ml + (R1.2.2 + R2.2.2)
      omega
    · exact of_trans (of_mono (mm_F_le (Nat.le_refl _) (Nat.le_refl _) (by omega) hma0) (o2 k n)) (of_trans (mm_nw hX (by omega) o3 (by omega)) (of_trans (mm_nw hX (by omega) o4 (by omega)) (of_trans (mm_nw hX (by omega) o5 (by omega)) (of_mono (mm_F_le (Nat.le_refl _) (Nat.le_refl _) (by omega) hma0) w6))))
  by_cases e1 : tr_k R1.1 = 1
  · by_cases e2 : tr_k R2.1 = 1
    · rw [if_pos ⟨e1, e2⟩]
      rcases r1' with ⟨-, p1, p2, -⟩ | ⟨p1, -⟩
      · rcases r2' with ⟨-, q1, q2, -⟩ | ⟨q1, -⟩
        · rw [p1, q1, if_neg (show ¬(1 : Int32) = 0 by decide), if_neg (show ¬(1 : Int32) = 0 by decide), p2, q2, mm_gives q79 (by omega) (Or.inr rfl)] at ef
          have k1 : mm_nz R1 = 0 := if_pos e1
          have k2 : mm_nz R2 = 0 := if_pos e2
          have l1 : R1.2.2 = 0 := by rw [n1 e1]
          have l2 : R2.2.2 = 0 := by rw [n2 e2]
          have em : mn1 = mn := by omega
          have ea : ma1 = ma := by omega
          have el : ml1 = ml := by omega
          subst em ea el
          exact mm_close_n (mm_h_g h2) mg_167 mg_168 (of_trans (o2 k n) (of_mono (fun a b z => mm_w_F a b (by unfold mm_w; omega)) mg_o)) (ep _ ef) hc
        · exact absurd e2 q1
      · exact absurd e1 p1
    · rw [if_neg (fun q => e2 q.2)]
      refine hno (fun q => e2 q.2) ?_
      rw [ef]
      rcases r2' with ⟨q1, -⟩ | ⟨-, q1, -⟩
      · exact absurd q1 e2
      · rw [q1, if_pos rfl, ite_self]
  · rw [if_neg (fun q => e1 q.1)]
    refine hno (fun q => e1 q.1) ?_
    rw [ef]
    rcases r1' with ⟨q1, -⟩ | ⟨-, q1, -⟩
    · exact absurd q1 e1
    · rw [q1, if_pos rfl]
end Mm4
end
/-! part b14 -/
section
/-! The reference's maker: choices and lets. -/
section Mm5
variable {B h : Nat} {pg : pg_T} {S0 S S' S1 S2 S3 : wd_S} {N N' : mk_N} {s s' : mk_S} {k n mn ma ml k' n' mn' ma' ml' mn1 ma1 ml1 y z z1 z2 z3 d r c p i : Nat} {t T1 T2 T3 : tr_T} {x v : Int32} {R R1 R2 R3 : mk_R}
/-- CHOSEN, of a NUMBER -/
theorem mm_chs_n (hX : mm_X B h pg S0) (hh : mm_h B h pg S0 N s (k + 1) (n + 1) mn ma ml S) (hk : k < 4000) (hn : n + 2 ≤ 4000) (h165 : S.1 165 k = 3) (h166 : S.1 166 k = Int32.ofNat y) (hy : y < 3004) (h167 : S.1 167 n = 1) (hz : (if S.1 168 n = 0 then S.1 146 y else S.1 145 y) = Int32.ofNat z) : ∃ S', mm_go 1 S S' ∧ mm_h B h pg S0 N s (k + 1) n mn ma ml S' ∧ S'.1 165 k = 1 ∧ S'.1 166 k = Int32.ofNat z ∧ of_f (mm_F B k n mn ma) S S' := by
  have h1 := mm_pop_h hh
  have h2 : mm_h B h pg S0 N s k n mn ma ml (wd_i (wd_i S 135 76 (Int32.ofNat k)) 135 79 (Int32.ofNat n)) := mm_h_79 h1
  have e79 : (wd_i S 135 76 (Int32.ofNat k)).1 135 79 - 1 = Int32.ofNat n := by
    rw [h1.2.2.2.2.2.2.2.2.2.1]
    exact im_sb n 1
  have q76 : (wd_i (wd_i S 135 76 (Int32.ofNat k)) 135 79 (Int32.ofNat n)).1 135 76 = Int32.ofNat k := h2.2.2.2.2.2.2.2.2.1
  have q79 : (wd_i (wd_i S 135 76 (Int32.ofNat k)) 135 79 (Int32.ofNat n)).1 135 79 = Int32.ofNat n := fr_eq
  have ef : fn_Mo_onMaking 3 (Int32.ofNat y) (wd_i S 135 76 (Int32.ofNat k)) = fn_Mo_later 1 (Int32.ofNat z) (wd_i (wd_i S 135 76 (Int32.ofNat k)) 135 79 (Int32.ofNat n)) := by
    unfold fn_Mo_onMaking
    rw [if_neg (show ¬(3 : Int32) = 1 by decide), if_neg (show ¬(3 : Int32) = 2 by decide), if_pos rfl]
    unfold fn_Mo_onMaking_242 fn_Mo_onMaking_566
    simp only [wd_b, wd_d_id]
    rw [e79, if_neg (ms_in (show n < 4000 by omega) (by decide)), im_t (show n < 2147483648 by omega), fr_ne (show ¬(167 = 135 ∧ _) by omega), h167, if_neg (show ¬(1 : Int32) = 0 by decide), q79, if_neg (ms_in (show n < 4000 by omega) (by decide)), im_t (show n < 2147483648 by omega), if_neg (ms_in (show y < 15010 by omega) (by decide)), im_t (show y < 2147483648 by omega), fr_ne (show ¬(168 = 135 ∧ _) by omega), fr_ne (show ¬(168 = 135 ∧ _) by omega), fr_ne (show ¬(146 = 135 ∧ _) by omega), fr_ne (show ¬(146 = 135 ∧ _) by omega), fr_ne (show ¬(145 = 135 ∧ _) by omega), fr_ne (show ¬(145 = 135 ∧ _) by omega)]
    by_cases e : S.1 168 n = 0
    · rw [if_pos e]; rw [if_pos e] at hz; rw [hz]
    · rw [if_neg e, if_neg (ms_iy (show y < 15010 by omega) (by decide))]; rw [if_neg e] at hz; rw [hz]
  rw [mm_later q76 hk] at ef
  exact ⟨_, mm_pop hh hk (by rw [h165, h166]; exact ef), mm_h_p h2, by rw [ml_165, if_pos rfl], by rw [ml_166, if_pos rfl], of_trans (of_i (Or.inl ⟨rfl, by omega⟩) (of_i (Or.inl ⟨rfl, by omega⟩) of_refl)) (of_mono (fun a b z => mm_w_F a b (by unfold mm_w; omega)) ml_o)⟩
/-- CHOSEN, of a REST -/
theorem mm_chs_r (hX : mm_X B h pg S0) (hh : mm_h B h pg S0 N s (k + 1) (n + 1) mn ma ml S) (hk : k + 3 ≤ 4000) (hn : n + 2 ≤ 4000) (h165 : S.1 165 k = 3) (h166 : S.1 166 k = Int32.ofNat y) (hy : y < 3004) (h167 : S.1 167 n = 0) : ∃ S', mm_go 1 S S' ∧ mm_h B h pg S0 N s (k + 3) (n + 1) mn ma ml S' ∧ S'.1 165 k = 4 ∧ S'.1 166 k = Int32.ofNat y ∧ S'.1 165 (k + 1) = 1 ∧ S'.1 166 (k + 1) = S.1 146 y ∧ S'.1 165 (k + 2) = 1 ∧ S'.1 166 (k + 2) = S.1 145 y ∧ of_f (fun a b => (a = 135 ∧ b = 76) ∨ ((a = 165 ∨ a = 166) ∧ k ≤ b)) S S' := by
  have h1 := mm_pop_h hh
  have q76 : (wd_i S 135 76 (Int32.ofNat k)).1 135 76 = Int32.ofNat k := fr_eq
  have e79 : (wd_i S 135 76 (Int32.ofNat k)).1 135 79 - 1 = Int32.ofNat n := by
    rw [h1.2.2.2.2.2.2.2.2.2.1]
    exact im_sb n 1
  have ef : fn_Mo_onMaking 3 (Int32.ofNat y) (wd_i S 135 76 (Int32.ofNat k)) = some (ml_p (k + 2) 1 (S.1 145 y) (ml_p (k + 1) 1 (S.1 146 y) (ml_p k 4 (Int32.ofNat y) (wd_i S 135 76 (Int32.ofNat k))))) := by
    unfold fn_Mo_onMaking
    rw [if_neg (show ¬(3 : Int32) = 1 by decide), if_neg (show ¬(3 : Int32) = 2 by decide), if_pos rfl]
    unfold fn_Mo_onMaking_566
    simp only [wd_b]
    rw [e79, if_neg (ms_in (show n < 4000 by omega) (by decide)), im_t (show n < 2147483648 by omega), fr_ne (show ¬(167 = 135 ∧ _) by omega), h167, if_pos rfl, mm_later q76 (by omega), wd_d_s, if_neg (ms_in (show y < 15010 by omega) (by decide)), mm_later ml_76 (by omega), wd_d_s, if_neg (ms_in (show y < 15010 by omega) (by decide)), mm_later ml_76 (by omega), wd_d_s, im_t (show y < 2147483648 by omega), ml_row (by decide) (by decide) (by decide), ml_row (by decide) (by decide) (by decide), ml_row (by decide) (by decide) (by decide), fr_ne (show ¬(146 = 135 ∧ _) by omega), fr_ne (show ¬(145 = 135 ∧ _) by omega)]
  refine ⟨_, mm_pop hh (by omega) (by rw [h165, h166]; exact ef), mm_h_p (mm_h_p (mm_h_p h1)), ?_, ?_, ?_, ?_, ?_, ?_, of_trans (of_i (by omega) of_refl) (of_trans (of_mono (fun a b z => by omega) ml_o) (of_trans (of_mono (fun a b z => by omega) ml_o) (of_mono (fun a b z => by omega) ml_o)))⟩
  · rw [ml_165, if_neg (by omega), ml_165, if_neg (by omega), ml_165, if_pos rfl]
  · rw [ml_166, if_neg (by omega), ml_166, if_neg (by omega), ml_166, if_pos rfl]
  · rw [ml_165, if_neg (by omega), ml_165, if_pos rfl]
  · rw [ml_166, if_neg (by omega), ml_166, if_pos rfl]
  · rw [ml_165, if_pos rfl]
  · rw [ml_166, if_pos rfl]
/-- CHOICES -/
theorem mm_chc (hX : mm_X B h pg S0) (hh : mm_h B h pg S0 N s (k + 1) (n + 3) mn1 ma1 ml1 S) (hk : k < 4000) (hn : n + 3 ≤ 4000) (h165 : S.1 165 k = 4) (h166 : S.1 166 k = Int32.ofNat y) (hr : 1 ≤ r) (r1 : mm_r B mn1 ma1 r n R1 S) (r2 : mm_r B mn1 ma1 r (n + 1) R2 S) (r3 : mm_r B mn1 ma1 r (n + 2) R3 S) (n1 : mk_nn R1) (n2 : mk_nn R2) (n3 : mk_nn R3) (hmn : mn1 = mn + mm_nz R1 + mm_nz R2 + mm_nz R3) (hma : ma1 ≤ mm_nz R1 + mm_nz R2 + mm_nz R3 + ma) (hma0 : ma ≤ ma1) (hml : ml1 = ml + R1.2.2 + R2.2.2 + R3.2.2) (hb : mn + 1 + R1.2.1 + R2.2.1 + R3.2.1 ≤ 1000) (hc : c + 1 ≤ 3 * s.2.1) : mm_O B h pg S0 (r + 1) k n mn ma ml c (.ok ((tr_3 4 0 0 R1.1 R2.1 R3.1, 1 + R1.2.1 + R2.2.1 + R3.2.1, R1.2.2 + R2.2.2 + R3.2.2), N, s)) S := by
  have hB := hX.1
  have z1 := mm_nzi n1
  have z2 := mm_nzi n2
  have z3 := mm_nzi n3
  have i1 := mm_i1 R1
  have i2 := mm_i1 R2
  have i3 := mm_i1 R3
  have h1 := mm_pop_h hh
  have h2 : mm_h B h pg S0 N s k n mn1 ma1 ml1 (wd_i (wd_i S 135 76 (Int32.ofNat k)) 135 79 (Int32.ofNat n)) := mm_h_79 h1
  have e79 : (wd_i S 135 76 (Int32.ofNat k)).1 135 79 - 3 = Int32.ofNat n := by
    rw [h1.2.2.2.2.2.2.2.2.2.1]
    exact im_sb n 3
  have o2 : ∀ k0 n0, of_f (mm_F B k0 n0 mn1 ma1) S (wd_i (wd_i S 135 76 (Int32.ofNat k)) 135 79 (Int32.ofNat n)) := fun k0 n0 => of_i (Or.inl ⟨rfl, by omega⟩) (of_i (Or.inl ⟨rfl, by omega⟩) of_refl)
  have r1' := mm_r_o (o2 0 (n + 3)) (show n < n + 3 by omega) (Nat.le_refl _) (Nat.le_refl _) r1
  have r2' := mm_r_o (o2 0 (n + 3)) (show n + 1 < n + 3 by omega) (Nat.le_refl _) (Nat.le_refl _) r2
  have r3' := mm_r_o (o2 0 (n + 3)) (show n + 2 < n + 3 by omega) (Nat.le_refl _) (Nat.le_refl _) r3
  have q79 : (wd_i (wd_i S 135 76 (Int32.ofNat k)) 135 79 (Int32.ofNat n)).1 135 79 = Int32.ofNat n := fr_eq
  have ep : ∀ S', fn_Mo_onMaking 4 (Int32.ofNat y) (wd_i S 135 76 (Int32.ofNat k)) = some S' → mm_go 1 S S' := fun S' q => mm_pop hh hk (by rw [h165, h166]; exact q)
  unfold fn_Mo_onMaking at ep
  rw [if_neg (show ¬(4 : Int32) = 1 by decide), if_neg (show ¬(4 : Int32) = 2 by decide), if_neg (show ¬(4 : Int32) = 3 by decide), if_pos rfl] at ep
  unfold fn_Mo_onMaking_566 at ep
  simp only [wd_b, wd_d_id] at ep
  rw [e79] at ep
  generalize wd_i (wd_i S 135 76 (Int32.ofNat k)) 135 79 (Int32.ofNat n) = S2 at *
  obtain ⟨x1, S3, f3, h3, t3, o3⟩ := mm_node hX h2 (show n < 4000 by omega) r1' hr (by omega)
  have h3 : mm_h B h pg S0 N s k n (mn1 + mm_i R1) ma1 ml1 S3 := h3
  have t3 : mm_t B (mn1 + mm_i R1) ma1 r x1 R1.1 S3 := t3
  have r2'' : mm_r B (mn1 + mm_i R1) ma1 r (n + 1) R2 S3 := mm_r_o (k0 := 0) (n0 := n + 3) (mm_nw hX (by omega) o3 (Nat.le_refl _)) (show n + 1 < n + 3 by omega) (Nat.le_add_right _ _) (Nat.le_refl _) r2'
  have r3'' : mm_r B (mn1 + mm_i R1) ma1 r (n + 2) R3 S3 := mm_r_o (k0 := 0) (n0 := n + 3) (mm_nw hX (by omega) o3 (Nat.le_refl _)) (show n + 2 < n + 3 by omega) (Nat.le_add_right _ _) (Nat.le_refl _) r3'
  obtain ⟨x2, S4, f4, h4, t4, o4⟩ := mm_node hX h3 (show n + 1 < 4000 by omega) r2'' hr (by omega)
  have h4 : mm_h B h pg S0 N s k n (mn1 + mm_i R1 + mm_i R2) ma1 ml1 S4 := h4
  have t4 : mm_t B (mn1 + mm_i R1 + mm_i R2) ma1 r x2 R2.1 S4 := t4
  have r3a : mm_r B (mn1 + mm_i R1 + mm_i R2) ma1 r (n + 2) R3 S4 := mm_r_o (k0 := 0) (n0 := n + 3) (mm_nw hX (by omega) o4 (Nat.le_refl _)) (show n + 2 < n + 3 by omega) (Nat.le_add_right _ _) (Nat.le_refl _) r3''
  obtain ⟨x3, S5, f5, h5, t5, o5⟩ := mm_node hX h4 (show n + 2 < 4000 by omega) r3a hr (by omega)
  have h5 : mm_h B h pg S0 N s k n (mn1 + mm_i R1 + mm_i R2 + mm_i R3) ma1 ml1 S5 := h5
  have t5 : mm_t B (mn1 + mm_i R1 + mm_i R2 + mm_i R3) ma1 r x3 R3.1 S5 := t5
  obtain ⟨h6, o6, g3, g4, g5, g6⟩ := mm_mk hX h5 (by omega) (κ := 2) (a := Int32.ofNat x1) (b := Int32.ofNat x2) (e := Int32.ofNat x3)
  have e79' : S3.1 135 79 = Int32.ofNat n := h3.2.2.2.2.2.2.2.2.2.1
  have e79'' : S4.1 135 79 = Int32.ofNat n := h4.2.2.2.2.2.2.2.2.2.1
  have e2 : Int32.ofNat n + 2 = Int32.ofNat (n + 2) := (Int32.ofNat_add n 2).symm
  rw [q79, f3, wd_c_s, e79', im_s, f4, wd_c_s, e79'', e2, f5, wd_c_s, mm_cfg hX h5 (by omega), wd_c_s, if_neg (ms_in (show 3004 + 6002 * B + (mn1 + mm_i R1 + mm_i R2 + mm_i R3) < 15010 by omega) (by decide)), if_neg (ms_in (show 3004 + 6002 * B + (mn1 + mm_i R1 + mm_i R2 + mm_i R3) < 15010 by omega) (by decide)), if_neg (ms_in (show 3004 + 6002 * B + (mn1 + mm_i R1 + mm_i R2 + mm_i R3) < 15010 by omega) (by decide)), im_t (show 3004 + 6002 * B + (mn1 + mm_i R1 + mm_i R2 + mm_i R3) < 2147483648 by omega)] at ep
  generalize wd_i (wd_i (wd_i (wd_i (wd_i S5 135 66 (Int32.ofNat (mn1 + mm_i R1 + mm_i R2 + mm_i R3 + 1))) 143 (3004 + 6002 * B + (mn1 + mm_i R1 + mm_i R2 + mm_i R3)) 2) 144 (3004 + 6002 * B + (mn1 + mm_i R1 + mm_i R2 + mm_i R3)) (Int32.ofNat x1)) 145 (3004 + 6002 * B + (mn1 + mm_i R1 + mm_i R2 + mm_i R3)) (Int32.ofNat x2)) 146 (3004 + 6002 * B + (mn1 + mm_i R1 + mm_i R2 + mm_i R3)) (Int32.ofNat x3) = S6 at *
  have w4 := mm_nw hX (by omega) o4 (k0 := k) (n0 := n) (mn0 := mn1 + mm_i R1) (ma0 := ma1) (by omega)
  have w5 := mm_nw hX (by omega) o5 (k0 := k) (n0 := n) (mn0 := mn1 + mm_i R1 + mm_i R2) (ma0 := ma1) (by omega)
  have w6 := mm_nw hX (by omega) o6 (k0 := k) (n0 := n) (mn0 := mn1 + mm_i R1 + mm_i R2 + mm_i R3) (ma0 := ma1) (by omega)
  have t3' := mm_t_o w6 (mn' := mn1 + mm_i R1 + mm_i R2 + mm_i R3 + 1) (by omega) (Nat.le_refl _) (mm_t_o w5 (mn' := mn1 + mm_i R1 + mm_i R2 + mm_i R3) (by omega) (Nat.le_refl _) (mm_t_o w4 (mn' := mn1 + mm_i R1 + mm_i R2) (by omega) (Nat.le_refl _) t3))
  have t4' := mm_t_o w6 (mn' := mn1 + mm_i R1 + mm_i R2 + mm_i R3 + 1) (by omega) (Nat.le_refl _) (mm_t_o w5 (mn' := mn1 + mm_i R1 + mm_i R2 + mm_i R3) (by omega) (Nat.le_refl _) t4)
  have t5' := mm_t_o w6 (mn' := mn1 + mm_i R1 + mm_i R2 + mm_i R3 + 1) (by omega) (Nat.le_refl _) t5
  have og := mg_o (n := n) (x := 0) (v := Int32.ofNat (3004 + 6002 * B + (mn1 + mm_i R1 + mm_i R2 + mm_i R3))) (S := S6)
  have w7 : of_f (mm_F B k n (mn1 + mm_i R1 + mm_i R2 + mm_i R3 + 1) ma1) S6 (mg_p n 0 (Int32.ofNat (3004 + 6002 * B + (mn1 + mm_i R1 + mm_i R2 + mm_i R3))) S6) := of_mono (fun a b z => mm_w_F a b (by unfold mm_w; omega)) og
  refine mm_close (z := 3004 + 6002 * B + (mn1 + mm_i R1 + mm_i R2 + mm_i R3)) (mm_h_g h6) (show ¬(4 : Int32) = 1 by decide) ?_ ?_ hma0 ?_ mg_167 mg_168 (mm_t_o w7 (Nat.le_refl _) (Nat.le_refl _) ⟨by omega, by omega, Or.inr (Or.inr (Or.inr (Or.inl ⟨rfl, rfl, g3, x1, x2, x3, g4, g5, g6, t3', t4', t5'⟩)))⟩) ?_ (ep _ (mm_gives (h6.2.2.2.2.2.2.2.2.2.1) (by omega) (Or.inl rfl))) hc
  · show _ = mn + (1 + R1.2.1 + R2.2.1 + R3.2.1)
    omega
  · show _ ≤ 1 + R1.2.1 + R2.2.1 + R3.2.1 + ma
    omega
  · show ml1 = ml + (R1.2.2 + R2.2.2 + R3.2.2)
    omega
  · exact of_trans (of_mono (mm_F_le (Nat.le_refl _) (Nat.le_refl _) (by omega) hma0) (o2 k n)) (of_trans (mm_nw hX (by omega) o3 (by omega)) (of_trans (mm_nw hX (by omega) o4 (by omega)) (of_trans (mm_nw hX (by omega) o5 (by omega)) (of_trans (mm_nw hX (by omega) o6 (by omega)) (of_mono (mm_F_le (Nat.le_refl _) (Nat.le_refl _) (by omega) hma0) w7)))))
/-- LETS -/
theorem mm_lts (hX : mm_X B h pg S0) (hh : mm_h B h pg S0 N s (k + 1) (n + 2) mn1 ma1 ml1 S) (hk : k < 4000) (hn : n + 2 ≤ 4000) (h165 : S.1 165 k = 5) (h166 : S.1 166 k = Int32.ofNat y) (hy : y < 3004) (hi : i < 16) (h146 : S.1 146 y = Int32.ofNat i) (hr : 1 ≤ r) (r1 : mm_r B mn1 ma1 r n R1 S) (r2 : mm_r B mn1 ma1 r (n + 1) R2 S) (n1 : mk_nn R1) (n2 : mk_nn R2) (hmn : mn1 = mn + mm_nz R1 + mm_nz R2) (hma : ma1 ≤ mm_nz R1 + mm_nz R2 + ma) (hma0 : ma ≤ ma1) (hml : ml1 = ml + R1.2.2 + R2.2.2) (hb : mn + 1 + R1.2.1 + R2.2.1 ≤ 1000) (hc : c + 1 ≤ 3 * s.2.1) : mm_O B h pg S0 (r + 1) k n mn ma ml c (.ok ((tr_2 3 (Int32.ofNat i) 0 R1.1 R2.1, 1 + R1.2.1 + R2.2.1, 1 + R1.2.2 + R2.2.2), N, s)) S := by
  have hB := hX.1
  have z1 := mm_nzi n1
  have z2 := mm_nzi n2
  have i1 := mm_i1 R1
  have i2 := mm_i1 R2
  have h1 := mm_pop_h hh
  have h2 : mm_h B h pg S0 N s k n mn1 ma1 ml1 (wd_i (wd_i S 135 76 (Int32.ofNat k)) 135 79 (Int32.ofNat n)) := mm_h_79 h1
  have e79 : (wd_i S 135 76 (Int32.ofNat k)).1 135 79 - 2 = Int32.ofNat n := by
    rw [h1.2.2.2.2.2.2.2.2.2.1]
    exact im_sb n 2
  have o2 : ∀ k0 n0, of_f (mm_F B k0 n0 mn1 ma1) S (wd_i (wd_i S 135 76 (Int32.ofNat k)) 135 79 (Int32.ofNat n)) := fun k0 n0 => of_i (Or.inl ⟨rfl, by omega⟩) (of_i (Or.inl ⟨rfl, by omega⟩) of_refl)
  have r1' := mm_r_o (o2 0 (n + 2)) (show n < n + 2 by omega) (Nat.le_refl _) (Nat.le_refl _) r1
  have r2' := mm_r_o (o2 0 (n + 2)) (show n + 1 < n + 2 by omega) (Nat.le_refl _) (Nat.le_refl _) r2
  have q79 : (wd_i (wd_i S 135 76 (Int32.ofNat k)) 135 79 (Int32.ofNat n)).1 135 79 = Int32.ofNat n := fr_eq
  have y146 : (wd_i (wd_i S 135 76 (Int32.ofNat k)) 135 79 (Int32.ofNat n)).1 146 y = Int32.ofNat i := by rw [fr_ne (by omega), fr_ne (by omega)]; exact h146
  have ep : ∀ S', fn_Mo_onMaking 5 (Int32.ofNat y) (wd_i S 135 76 (Int32.ofNat k)) = some S' → mm_go 1 S S' := fun S' q => mm_pop hh hk (by rw [h165, h166]; exact q)
  unfold fn_Mo_onMaking at ep
  rw [if_neg (show ¬(5 : Int32) = 1 by decide), if_neg (show ¬(5 : Int32) = 2 by decide), if_neg (show ¬(5 : Int32) = 3 by decide), if_neg (show ¬(5 : Int32) = 4 by decide), if_pos rfl] at ep
  unfold fn_Mo_onMaking_566 at ep
  simp only [wd_b, wd_d_id] at ep
  rw [e79] at ep
  generalize wd_i (wd_i S 135 76 (Int32.ofNat k)) 135 79 (Int32.ofNat n) = S2 at *
  obtain ⟨x1, S3, f3, h3, t3, o3⟩ := mm_node hX h2 (show n < 4000 by omega) r1' hr (by omega)
  have h3 : mm_h B h pg S0 N s k n (mn1 + mm_i R1) ma1 ml1 S3 := h3
  have t3 : mm_t B (mn1 + mm_i R1) ma1 r x1 R1.1 S3 := t3
  have r2'' : mm_r B (mn1 + mm_i R1) ma1 r (n + 1) R2 S3 := mm_r_o (k0 := 0) (n0 := n + 2) (mm_nw hX (by omega) o3 (Nat.le_refl _)) (show n + 1 < n + 2 by omega) (Nat.le_add_right _ _) (Nat.le_refl _) r2'
  obtain ⟨x2, S4, f4, h4, t4, o4⟩ := mm_node hX h3 (show n + 1 < 4000 by omega) r2'' hr (by omega)
  have h4 : mm_h B h pg S0 N s k n (mn1 + mm_i R1 + mm_i R2) ma1 ml1 S4 := h4
  have t4 : mm_t B (mn1 + mm_i R1 + mm_i R2) ma1 r x2 R2.1 S4 := t4
  obtain ⟨h5, o5, g3, g4, g5, g6⟩ := mm_mk hX h4 (by omega) (κ := 3) (a := Int32.ofNat x1) (b := Int32.ofNat x2) (e := Int32.ofNat i)
  have y146' : S4.1 146 y = Int32.ofNat i := by rw [o4.1 146 y (by omega), o3.1 146 y (by omega)]; exact y146
  have e79' : S3.1 135 79 = Int32.ofNat n := h3.2.2.2.2.2.2.2.2.2.1
  rw [q79, f3, wd_c_s, e79', im_s, f4, wd_c_s, mm_cfg hX h4 (by omega), wd_c_s, if_neg (ms_in (show 3004 + 6002 * B + (mn1 + mm_i R1 + mm_i R2) < 15010 by omega) (by decide)), if_neg (ms_in (show 3004 + 6002 * B + (mn1 + mm_i R1 + mm_i R2) < 15010 by omega) (by decide)), if_neg (ms_in (show y < 15010 by omega) (by decide)), if_neg (ms_in (show 3004 + 6002 * B + (mn1 + mm_i R1 + mm_i R2) < 15010 by omega) (by decide)), im_t (show 3004 + 6002 * B + (mn1 + mm_i R1 + mm_i R2) < 2147483648 by omega), im_t (show y < 2147483648 by omega), fr_ne (show ¬(146 = 145 ∧ _) by omega), fr_ne (show ¬(146 = 144 ∧ _) by omega), fr_ne (show ¬(146 = 143 ∧ _) by omega), fr_ne (show ¬(146 = 135 ∧ _) by omega), y146'] at ep
  generalize wd_i (wd_i (wd_i (wd_i (wd_i S4 135 66 (Int32.ofNat (mn1 + mm_i R1 + mm_i R2 + 1))) 143 (3004 + 6002 * B + (mn1 + mm_i R1 + mm_i R2)) 3) 144 (3004 + 6002 * B + (mn1 + mm_i R1 + mm_i R2)) (Int32.ofNat x1)) 145 (3004 + 6002 * B + (mn1 + mm_i R1 + mm_i R2)) (Int32.ofNat x2)) 146 (3004 + 6002 * B + (mn1 + mm_i R1 + mm_i R2)) (Int32.ofNat i) = S5 at *
  rw [h5.2.2.2.2.2.1, im_s] at ep
  have o6 : of_f (fun a b => a = 135 ∧ b = 70) S5 (wd_i S5 135 70 (Int32.ofNat (ml1 + 1))) := of_i ⟨rfl, rfl⟩ of_refl
  have h6 : mm_h B h pg S0 N s k n (mn1 + mm_i R1 + mm_i R2 + 1) ma1 (ml1 + 1) (wd_i S5 135 70 (Int32.ofNat (ml1 + 1))) := by
    obtain ⟨a1, a2, a3, a4, a5, a6, a7, a8, a9, a10, a11, a12, a13⟩ := id h5
    exact mm_hw (k0 := 0) (n0 := 0) (mn0 := 0) (ma0 := 0) h5 (of_mono (fun a b z => by unfold mm_w; omega) o6) (by rw [fr_ne (by omega)]; exact a2) (by rw [fr_ne (by omega)]; exact a3) fr_eq (by rw [fr_ne (by omega)]; exact a9) (by rw [fr_ne (by omega)]; exact a10) a11 a12
  generalize wd_i S5 135 70 (Int32.ofNat (ml1 + 1)) = S6 at *
  have w4 := mm_nw hX (by omega) o4 (k0 := k) (n0 := n) (mn0 := mn1 + mm_i R1) (ma0 := ma1) (by omega)
  have w5 := mm_nw hX (by omega) o5 (k0 := k) (n0 := n) (mn0 := mn1 + mm_i R1 + mm_i R2) (ma0 := ma1) (by omega)
  have t3' := mm_t_o w5 (mn' := mn1 + mm_i R1 + mm_i R2 + 1) (by omega) (Nat.le_refl _) (mm_t_o w4 (mn' := mn1 + mm_i R1 + mm_i R2) (by omega) (Nat.le_refl _) t3)
  have t4' := mm_t_o w5 (mn' := mn1 + mm_i R1 + mm_i R2 + 1) (by omega) (Nat.le_refl _) t4
  have og := mg_o (n := n) (x := 0) (v := Int32.ofNat (3004 + 6002 * B + (mn1 + mm_i R1 + mm_i R2))) (S := S6)
  have w6 : of_f (mm_F B k n (mn1 + mm_i R1 + mm_i R2 + 1) ma1) S5 (mg_p n 0 (Int32.ofNat (3004 + 6002 * B + (mn1 + mm_i R1 + mm_i R2))) S6) := of_trans (of_mono (fun a b z => mm_w_F a b (by unfold mm_w; omega)) o6) (of_mono (fun a b z => mm_w_F a b (by unfold mm_w; omega)) og)
  refine mm_close (z := 3004 + 6002 * B + (mn1 + mm_i R1 + mm_i R2)) (mm_h_g h6) (show ¬(3 : Int32) = 1 by decide) ?_ ?_ hma0 ?_ mg_167 mg_168 (mm_t_o w6 (Nat.le_refl _) (Nat.le_refl _) ⟨by omega, by omega, Or.inr (Or.inr (Or.inl ⟨rfl, rfl, g3, g6, ⟨i, hi, rfl⟩, x1, x2, g4, g5, t3', t4'⟩))⟩) ?_ (ep _ (mm_gives (h6.2.2.2.2.2.2.2.2.2.1) (by omega) (Or.inl rfl))) hc
  · show _ = mn + (1 + R1.2.1 + R2.2.1)
    omega
  · show _ ≤ 1 + R1.2.1 + R2.2.1 + ma
    omega
  · show ml1 + 1 = ml + (1 + R1.2.2 + R2.2.2)
    omega
  · exact of_trans (of_mono (mm_F_le (Nat.le_refl _) (Nat.le_refl _) (by omega) hma0) (o2 k n)) (of_trans (mm_nw hX (by omega) o3 (by omega)) (of_trans (mm_nw hX (by omega) o4 (by omega)) (of_trans (mm_nw hX (by omega) o5 (by omega)) (of_mono (mm_F_le (Nat.le_refl _) (Nat.le_refl _) (by omega) hma0) w6))))
end Mm5
end
/-! part b15 -/
section
/-! The reference's maker: a let's NAME; versions. -/
section Mm6
variable {B h : Nat} {pg : pg_T} {S0 S S' S1 S2 S3 : wd_S} {N N' : mk_N} {s s' : mk_S} {k n mn ma ml k' n' mn' ma' ml' mn1 ma1 ml1 y z d r c p i f m : Nat} {t : tr_T} {x v : Int32} {R : mk_R} {kn : Nat → Int32} {vs : List mk_V}
theorem mm_bd (hh : mm_h B h pg S0 N s k n mn ma ml S) (hi : i < 16) {e : Bool} (he : e = false → ∃ j, j < 16 ∧ x = Int32.ofNat j) : mm_h B h pg S0 (mk_u N i (e, x)) s k n mn ma ml (wd_i (wd_i S 169 i (if e = true then 1 else 0)) 170 i x) := by
  obtain ⟨a1, a2, a3, a4, a5, a6, a7, a8, a9, a10, a11, a12, a13, a14, a15⟩ := hh
  have e5 : ∀ b, (wd_i (wd_i S 169 i (if e = true then 1 else 0)) 170 i x).1 135 b = S.1 135 b := fun b => by rw [fr_ne (by omega), fr_ne (by omega)]
  have f5 : ∀ a b, 159 ≤ a → a ≤ 161 → (wd_i (wd_i S 169 i (if e = true then 1 else 0)) 170 i x).1 a b = S.1 a b := fun a b h1 h2 => by rw [fr_ne (by omega), fr_ne (by omega)]
  have w : ∀ a b, 169 ≤ a → a ≤ 172 → mm_F B 0 0 0 0 a b := fun a b h1 h2 => Or.inr (Or.inr (Or.inr (Or.inr (Or.inr (Or.inr (Or.inr (Or.inr (Or.inr (Or.inr (Or.inr ⟨h1, h2⟩))))))))))
  refine ⟨of_trans a1 (of_i (w _ _ (by omega) (by omega)) (of_i (w _ _ (by omega) (by omega)) of_refl)), by rw [e5]; exact a2, by rw [e5]; exact a3, by rw [e5]; exact a4, by rw [e5]; exact a5, by rw [e5]; exact a6, by rw [e5]; exact a7, by rw [e5]; exact a8, by rw [e5]; exact a9, by rw [e5]; exact a10, a11, a12, a13, fun j q hj => ?_, by rw [e5]; exact a15.1, a15.2.1, fun j hj => ?_⟩
  · unfold mk_u at hj
    split at hj
    · next ej =>
      cases hj
      subst ej
      exact ⟨hi, by rw [fr_ne (by omega), fr_eq], fr_eq, he⟩
    · next ej =>
      obtain ⟨b1, b2, b3, b4⟩ := a14 j q hj
      exact ⟨b1, by rw [fr_ne (by omega), fr_ne (by omega)]; exact b2, by rw [fr_ne (by omega), fr_ne (by omega)]; exact b3, b4⟩
  · obtain ⟨b1, b2, b3⟩ := a15.2.2 j hj
    exact ⟨by rw [f5 159 _ (by omega) (by omega)]; exact b1, by rw [f5 160 _ (by omega) (by omega)]; exact b2, fun i hi => by rw [f5 161 _ (by omega) (by omega)]; exact b3 i hi⟩
theorem mm_bo : ∀ k0 n0 mn0 ma0, of_f (mm_F B k0 n0 mn0 ma0) S (wd_i (wd_i S 169 i x) 170 i v) := fun k0 n0 mn0 ma0 => by
  have w : ∀ a b, 169 ≤ a → a ≤ 172 → mm_F B k0 n0 mn0 ma0 a b := fun a b h1 h2 => Or.inr (Or.inr (Or.inr (Or.inr (Or.inr (Or.inr (Or.inr (Or.inr (Or.inr (Or.inr (Or.inr ⟨h1, h2⟩))))))))))
  exact of_i (w _ _ (by omega) (by omega)) (of_i (w _ _ (by omega) (by omega)) of_refl)
/-- LETTING, of a NUMBER -/
theorem mm_ltg_n (hX : mm_X B h pg S0) (hh : mm_h B h pg S0 N s (k + 1) (n + 1) mn ma ml S) (hk : k < 4000) (hn : n + 2 ≤ 4000) (h165 : S.1 165 k = 6) (h166 : S.1 166 k = Int32.ofNat y) (hy : y < 3004) (hi : i < 16) (h146 : S.1 146 y = Int32.ofNat i) (h167 : S.1 167 n = 1) (h168 : S.1 168 n = v) : ∃ S', mm_go 1 S S' ∧ mm_h B h pg S0 (mk_u N i (true, v)) s (k + 1) n mn ma ml S' ∧ S'.1 165 k = 1 ∧ S'.1 166 k = S.1 145 y ∧ of_f (mm_F B k n mn ma) S S' := by
  have h1 := mm_pop_h hh
  have e79 : (wd_i S 135 76 (Int32.ofNat k)).1 135 79 - 1 = Int32.ofNat n := by
    rw [h1.2.2.2.2.2.2.2.2.2.1]
    exact im_sb n 1
  have h2 := mm_bd (e := true) (x := v) h1 hi (fun q => by cases q)
  rw [if_pos (rfl : true = true)] at h2
  have h3 : mm_h B h pg S0 (mk_u N i (true, v)) s k n mn ma ml (wd_i (wd_i (wd_i (wd_i S 135 76 (Int32.ofNat k)) 169 i 1) 170 i v) 135 79 (Int32.ofNat n)) := mm_h_79 h2
  have q1 : ∀ a b, a ≠ 135 → (wd_i S 135 76 (Int32.ofNat k)).1 a b = S.1 a b := fun a b q => fr_ne (by omega)
  have q2 : ∀ a b, a ≠ 169 → (wd_i (wd_i S 135 76 (Int32.ofNat k)) 169 i 1).1 a b = (wd_i S 135 76 (Int32.ofNat k)).1 a b := fun a b q => fr_ne (by omega)
  have q3 : ∀ a b, a ≠ 170 → (wd_i (wd_i (wd_i S 135 76 (Int32.ofNat k)) 169 i 1) 170 i v).1 a b = (wd_i (wd_i S 135 76 (Int32.ofNat k)) 169 i 1).1 a b := fun a b q => fr_ne (by omega)
  have q4 : ∀ a b, a ≠ 135 → (wd_i (wd_i (wd_i (wd_i S 135 76 (Int32.ofNat k)) 169 i 1) 170 i v) 135 79 (Int32.ofNat n)).1 a b = (wd_i (wd_i (wd_i S 135 76 (Int32.ofNat k)) 169 i 1) 170 i v).1 a b := fun a b q => fr_ne (by omega)
  have ef : fn_Mo_onMaking 6 (Int32.ofNat y) (wd_i S 135 76 (Int32.ofNat k)) = some (ml_p k 1 (S.1 145 y) (wd_i (wd_i (wd_i (wd_i S 135 76 (Int32.ofNat k)) 169 i 1) 170 i v) 135 79 (Int32.ofNat n))) := by
    unfold fn_Mo_onMaking
    rw [if_neg (show ¬(6 : Int32) = 1 by decide), if_neg (show ¬(6 : Int32) = 2 by decide), if_neg (show ¬(6 : Int32) = 3 by decide), if_neg (show ¬(6 : Int32) = 4 by decide), if_neg (show ¬(6 : Int32) = 5 by decide), if_pos rfl]
    unfold fn_Mo_onMaking_426 fn_Mo_onMaking_442 fn_Mo_onMaking_457 fn_Mo_onMaking_566
    simp only [wd_b, wd_d_id]
    rw [e79, if_neg (ms_in (show n < 4000 by omega) (by decide)), if_neg (ms_in (show y < 15010 by omega) (by decide)), im_t (show n < 2147483648 by omega), im_t (show y < 2147483648 by omega), q1 167 n (by decide), h167, q1 146 y (by decide), h146, im_t (show i < 2147483648 by omega), if_neg (fun q => by rcases q with q | q; exact ms_iy hi (by decide) q; exact q fo_b1), if_neg (ms_iy (show y < 15010 by omega) (by decide)), if_neg (show ¬(1 : Int32) = 0 by decide), q2 135 79 (by decide), e79, if_neg (ms_in (show n < 4000 by omega) (by decide)), im_t (show n < 2147483648 by omega), q2 146 y (by decide), q1 146 y (by decide), h146, if_neg (ms_in hi (by decide)), im_t (show i < 2147483648 by omega), q2 168 n (by decide), q1 168 n (by decide), h168, if_neg (show ¬(1 : Int32) = 0 by decide), q3 135 79 (by decide), q2 135 79 (by decide), e79, if_neg (show ¬(1 : Int32) = 0 by decide), if_neg (ms_iy (show y < 15010 by omega) (by decide)), mm_later h3.2.2.2.2.2.2.2.2.1 hk, q4 145 y (by decide), q3 145 y (by decide), q2 145 y (by decide), q1 145 y (by decide)]
  exact ⟨_, mm_pop hh hk (by rw [h165, h166]; exact ef), mm_h_p h3, by rw [ml_165, if_pos rfl], by rw [ml_166, if_pos rfl], of_trans (of_i (Or.inl ⟨rfl, by omega⟩) of_refl) (of_trans (mm_bo _ _ _ _) (of_trans (of_i (Or.inl ⟨rfl, by omega⟩) of_refl) (of_mono (fun a b z => mm_w_F a b (by unfold mm_w; omega)) ml_o)))⟩
/-- LETTING, of a REST -/
theorem mm_ltg_r (hX : mm_X B h pg S0) (hh : mm_h B h pg S0 N s (k + 1) (n + 1) mn ma ml S) (hk : k + 2 ≤ 4000) (hn : n + 2 ≤ 4000) (h165 : S.1 165 k = 6) (h166 : S.1 166 k = Int32.ofNat y) (hy : y < 3004) (hi : i < 16) (h146 : S.1 146 y = Int32.ofNat i) (h167 : S.1 167 n = 0) : ∃ S', mm_go 1 S S' ∧ mm_h B h pg S0 (mk_u N i (false, Int32.ofNat i)) s (k + 2) (n + 1) mn ma ml S' ∧ S'.1 165 k = 5 ∧ S'.1 166 k = Int32.ofNat y ∧ S'.1 165 (k + 1) = 1 ∧ S'.1 166 (k + 1) = S.1 145 y ∧ ∀ mn0 ma0, of_f (mm_F B k (n + 1) mn0 ma0) S S' := by
  have h1 := mm_pop_h hh
  have e79' : (wd_i S 135 76 (Int32.ofNat k)).1 135 79 = Int32.ofNat (n + 1) := h1.2.2.2.2.2.2.2.2.2.1
  have e79 : (wd_i S 135 76 (Int32.ofNat k)).1 135 79 - 1 = Int32.ofNat n := by
    rw [e79']
    exact im_sb n 1
  have h2 := mm_bd (e := false) (x := Int32.ofNat i) h1 hi (fun _ => ⟨i, hi, rfl⟩)
  rw [if_neg (show ¬false = true by decide)] at h2
  have h3 : mm_h B h pg S0 (mk_u N i (false, Int32.ofNat i)) s k (n + 1) mn ma ml (wd_i (wd_i (wd_i (wd_i S 135 76 (Int32.ofNat k)) 169 i 0) 170 i (Int32.ofNat i)) 135 79 (Int32.ofNat (n + 1))) := mm_h_79 h2
  have q1 : ∀ a b, a ≠ 135 → (wd_i S 135 76 (Int32.ofNat k)).1 a b = S.1 a b := fun a b q => fr_ne (by omega)
  have q2 : ∀ a b, a ≠ 169 → (wd_i (wd_i S 135 76 (Int32.ofNat k)) 169 i 0).1 a b = (wd_i S 135 76 (Int32.ofNat k)).1 a b := fun a b q => fr_ne (by omega)
  have q3 : ∀ a b, a ≠ 170 → (wd_i (wd_i (wd_i S 135 76 (Int32.ofNat k)) 169 i 0) 170 i (Int32.ofNat i)).1 a b = (wd_i (wd_i S 135 76 (Int32.ofNat k)) 169 i 0).1 a b := fun a b q => fr_ne (by omega)
  have q4 : ∀ a b, a ≠ 135 → (wd_i (wd_i (wd_i (wd_i S 135 76 (Int32.ofNat k)) 169 i 0) 170 i (Int32.ofNat i)) 135 79 (Int32.ofNat (n + 1))).1 a b = (wd_i (wd_i (wd_i S 135 76 (Int32.ofNat k)) 169 i 0) 170 i (Int32.ofNat i)).1 a b := fun a b q => fr_ne (by omega)
  have ez : Int32.ofNat (n + 1) - 0 = Int32.ofNat (n + 1) := im_sb (n + 1) 0
  have ef : fn_Mo_onMaking 6 (Int32.ofNat y) (wd_i S 135 76 (Int32.ofNat k)) = some (ml_p (k + 1) 1 (S.1 145 y) (ml_p k 5 (Int32.ofNat y) (wd_i (wd_i (wd_i (wd_i S 135 76 (Int32.ofNat k)) 169 i 0) 170 i (Int32.ofNat i)) 135 79 (Int32.ofNat (n + 1))))) := by
    unfold fn_Mo_onMaking
    rw [if_neg (show ¬(6 : Int32) = 1 by decide), if_neg (show ¬(6 : Int32) = 2 by decide), if_neg (show ¬(6 : Int32) = 3 by decide), if_neg (show ¬(6 : Int32) = 4 by decide), if_neg (show ¬(6 : Int32) = 5 by decide), if_pos rfl]
    unfold fn_Mo_onMaking_426 fn_Mo_onMaking_442 fn_Mo_onMaking_457 fn_Mo_onMaking_566
    simp only [wd_b, wd_d_id]
    rw [e79, if_neg (ms_in (show n < 4000 by omega) (by decide)), if_neg (ms_in (show y < 15010 by omega) (by decide)), im_t (show n < 2147483648 by omega), im_t (show y < 2147483648 by omega), q1 167 n (by decide), h167, q1 146 y (by decide), h146, im_t (show i < 2147483648 by omega), if_neg (fun q => by rcases q with q | q; exact ms_iy hi (by decide) q; exact q fo_b0), if_neg (ms_iy (show y < 15010 by omega) (by decide)), if_pos rfl, if_neg (ms_iy (show y < 15010 by omega) (by decide)), q2 146 y (by decide), q1 146 y (by decide), h146, if_neg (ms_in hi (by decide)), im_t (show i < 2147483648 by omega), if_pos rfl, q3 135 79 (by decide), q2 135 79 (by decide), e79', ez, if_pos rfl, mm_later h3.2.2.2.2.2.2.2.2.1 (by omega), wd_d_s, if_neg (ms_iy (show y < 15010 by omega) (by decide)), mm_later ml_76 (by omega), ml_row (by decide) (by decide) (by decide), q4 145 y (by decide), q3 145 y (by decide), q2 145 y (by decide), q1 145 y (by decide)]
  refine ⟨_, mm_pop hh (by omega) (by rw [h165, h166]; exact ef), mm_h_p (mm_h_p h3), ?_, ?_, ?_, ?_, fun mn0 ma0 => of_trans (of_i (Or.inl ⟨rfl, by omega⟩) of_refl) (of_trans (mm_bo _ _ _ _) (of_trans (of_i (Or.inl ⟨rfl, by omega⟩) of_refl) (of_trans (of_mono (fun a b z => mm_w_F a b (by unfold mm_w; omega)) ml_o) (of_mono (fun a b z => mm_w_F a b (by unfold mm_w; omega)) ml_o))))⟩
  · rw [ml_165, if_neg (by omega), ml_165, if_pos rfl]
  · rw [ml_166, if_neg (by omega), ml_166, if_pos rfl]
  · rw [ml_165, if_pos rfl]
  · rw [ml_166, if_pos rfl]
end Mm6
end
/-! part b16 -/
section
/-! The reference's versions: found, added. -/
section Mm7
variable {B h : Nat} {pg : pg_T} {S0 S S' S1 S2 S3 : wd_S} {k n y z d r c p i f m : Nat} {x v : Int32} {kn : Nat → Int32} {vs : List mk_V}
theorem mv_57 {kk : Int32 → Int32 → Int32 → Int32 → Int32 → wd_S → Option (Int32 × wd_S)} {l1 l3 l4 : Int32} (hm : m < 16) (hp : p < 160) : ∀ (r i F : Nat) (a : Bool), i + r = 4 → ∃ e : Bool, fn_Mo_versionOf_57 kk (F + 1 + r) l1 (Int32.ofNat m) l3 l4 (Int32.ofNat p) (if a = true then 1 else 0) (Int32.ofNat i) S = (if e = true then some (Int32.ofNat p, S) else kk l1 (Int32.ofNat m) l3 l4 (Int32.ofNat (p + 1)) S) ∧ (e = true ↔ (a = true ∧ ∀ j, j < 4 → i ≤ j → mk_bt m j = true → S.1 161 (4 * p + j) = S.1 171 j)) := by
  intro r
  induction r with
  | zero =>
    intro i F a hi
    have hi : i = 4 := hi
    subst hi
    rw [Nat.add_zero, fn_Mo_versionOf_57, if_neg (show ¬Int32.ofNat 4 < 4 by decide), im_s]
    cases a with
    | false => exact ⟨false, by rw [if_neg (show ¬false = true by decide), if_pos rfl, if_neg (show ¬false = true by decide)], ⟨fun q => (by cases q), fun q => q.1⟩⟩
    | true => exact ⟨true, by rw [if_pos (rfl : true = true), if_neg (show ¬(1 : Int32) = 0 by decide), if_pos (rfl : true = true)], ⟨fun _ => ⟨rfl, fun j h1 h2 => by omega⟩, fun _ => rfl⟩⟩
  | succ r ih =>
    intro i F a hi
    have hi4 : i < 4 := by omega
    show ∃ e : Bool, fn_Mo_versionOf_57 kk (F + 1 + r + 1) l1 (Int32.ofNat m) l3 l4 (Int32.ofNat p) (if a = true then 1 else 0) (Int32.ofNat i) S = _ ∧ _
    have ea : (4 : Int32) * Int32.ofNat p + Int32.ofNat i = Int32.ofNat (4 * p + i) := by rw [show (4 : Int32) = Int32.ofNat 4 from rfl, im_ma]
    rw [fn_Mo_versionOf_57, if_pos (show Int32.ofNat i < 4 from (im_lt (m := i) (n := 4) (by omega) (by omega)).mpr hi4)]
    unfold fn_Mo_versionOf_103 fn_Mo_versionOf_99 fn_Mo_versionOf_104
    rw [im_s, mk_i_bt m hm i hi4, ea, if_neg (ms_in (show 4 * p + i < 640 by omega) (by decide)), if_neg (ms_in hi4 (by decide)), im_t (show 4 * p + i < 2147483648 by omega), im_t (show i < 2147483648 by omega)]
    obtain ⟨e0, f0, q0⟩ := ih (i + 1) F false (by omega)
    rw [if_neg (show ¬false = true by decide)] at f0
    obtain ⟨e1, f1, q1⟩ := ih (i + 1) F true (by omega)
    rw [if_pos (rfl : true = true)] at f1
    rw [f0, f1]
    have ef : e0 = false := Bool.eq_false_iff.mpr (fun q => by cases (q0.mp q).1)
    rw [ef, if_neg (show ¬false = true by decide)]
    cases a with
    | false => exact ⟨false, by rw [if_neg (show ¬false = true by decide), if_pos rfl, if_neg (show ¬false = true by decide)], ⟨fun q => (by cases q), fun q => q.1⟩⟩
    | true =>
      rw [if_pos (rfl : true = true), if_neg (show ¬(1 : Int32) = 0 by decide)]
      cases hb : mk_bt m i with
      | false =>
        rw [if_neg (show ¬false = true by decide), if_pos rfl]
        refine ⟨e1, rfl, q1.trans ⟨fun q => ⟨rfl, fun j h1 h2 h3 => ?_⟩, fun q => ⟨rfl, fun j h1 h2 h3 => q.2 j h1 (by omega) h3⟩⟩⟩
        by_cases ej : j = i
        · subst ej; rw [hb] at h3; cases h3
        · exact q.2 j h1 (by omega) h3
      | true =>
        rw [if_pos (rfl : true = true), if_neg (show ¬(1 : Int32) = 0 by decide)]
        by_cases hq : S.1 161 (4 * p + i) = S.1 171 i
        · rw [if_pos hq]
          refine ⟨e1, rfl, q1.trans ⟨fun q => ⟨rfl, fun j h1 h2 h3 => ?_⟩, fun q => ⟨rfl, fun j h1 h2 h3 => q.2 j h1 (by omega) h3⟩⟩⟩
          by_cases ej : j = i
          · subst ej; exact hq
          · exact q.2 j h1 (by omega) h3
        · rw [if_neg hq]
          exact ⟨false, by rw [if_neg (show ¬false = true by decide)], ⟨fun q => (by cases q), fun q => absurd (q.2 i hi4 (Nat.le_refl _) hb) hq⟩⟩
/-- behind the last version -/
noncomputable def mv_tl (l1 l2 l3 l4 : Int32) (S : wd_S) : Option (Int32 × wd_S) := if l3 = 0 then (if (S.1 135 65) < (30 : Int32) then fn_Mo_versionOf_141 l1 l2 l4 S else some ((-1 : Int32), S)) else fn_Mo_versionOf_141 l1 l2 l4 S
theorem mv_13 (hB : B ≤ 1) (hh : h ≤ 1) (hm : m < 16) (hf : f < 48) (hv : mm_v B h pg vs S) (hpl : pg.length ≤ 48) (hpn : ∀ f, pg_n pg f ≤ 4) (hkn : ∀ i, i < 4 → mk_bt m i = true → S.1 171 i = kn i) : ∀ (l : List mk_V) (k F : Nat), vs.drop k = l → k ≤ vs.length → fn_Mo_versionOf_13 (F + 1 + l.length) (Int32.ofNat (48 * h + f)) (Int32.ofNat m) x (Int32.ofNat (80 * B)) (Int32.ofNat (80 * B + k)) S = match mk_fd f m kn l k with
    | some j => some (Int32.ofNat (80 * B + j), S)
    | none => mv_tl (Int32.ofNat (48 * h + f)) (Int32.ofNat m) x (Int32.ofNat (80 * B)) S := by
  have hl := mk_ok_len hv.2.1
  have ew : Int32.ofNat (80 * B) + Int32.ofNat vs.length = Int32.ofNat (80 * B + vs.length) := (Int32.ofNat_add _ _).symm
  intro l
  induction l with
  | nil =>
    intro k F hd hk
    have hk2 : k = vs.length := Nat.le_antisymm hk (List.drop_eq_nil_iff.mp hd)
    rw [show F + 1 + ([] : List mk_V).length = F + 1 from rfl, fn_Mo_versionOf_13, hv.1, ew, hk2, if_neg Int32.lt_irrefl]
    show _ = mv_tl _ _ _ _ _
    unfold mv_tl
    rw [hv.1]
  | cons q l ih =>
    intro k F hd hk
    have hlt : k < vs.length := by
      rcases Nat.lt_or_ge k vs.length with z | z
      · exact z
      · rw [List.drop_eq_nil_of_le z] at hd; cases hd
    rw [List.drop_eq_getElem_cons hlt] at hd
    injection hd with hq hd2
    obtain ⟨a1, a2, a4⟩ := hv.2.2 k hlt
    rw [hq] at a1 a2 a4
    have hmem : q ∈ vs := by rw [← hq]; exact List.getElem_mem hlt
    obtain ⟨c1, c2⟩ := hv.2.1.1 q hmem
    have hp16 : 2 ^ pg_n pg q.1 ≤ 2 ^ 4 := Nat.pow_le_pow_right (by decide) (hpn _)
    have hno : mk_is f m kn q = false → fn_Mo_versionOf_13 (F + 1 + l.length) (Int32.ofNat (48 * h + f)) (Int32.ofNat m) x (Int32.ofNat (80 * B)) (Int32.ofNat (80 * B + k + 1)) S = match mk_fd f m kn (q :: l) k with
        | some j => some (Int32.ofNat (80 * B + j), S)
        | none => mv_tl (Int32.ofNat (48 * h + f)) (Int32.ofNat m) x (Int32.ofNat (80 * B)) S := fun hn => by
      rw [show 80 * B + k + 1 = 80 * B + (k + 1) by omega, ih (k + 1) F hd2 hlt, mk_fd, if_neg (by rw [hn]; decide)]
    show fn_Mo_versionOf_13 (F + 1 + l.length + 1) (Int32.ofNat (48 * h + f)) (Int32.ofNat m) x (Int32.ofNat (80 * B)) (Int32.ofNat (80 * B + k)) S = _
    rw [fn_Mo_versionOf_13, hv.1, ew, if_pos ((im_lt (by omega) (by omega)).mpr (by omega)), if_neg (ms_in (show 80 * B + k < 160 by omega) (by decide)), if_neg (ms_in (show 80 * B + k < 160 by omega) (by decide)), im_t (show 80 * B + k < 2147483648 by omega), a1, a2]
    unfold fn_Mo_versionOf_51 fn_Mo_versionOf_52
    obtain ⟨e0, f0, q0⟩ := mv_57 (S := S) (kk := fn_Mo_versionOf_13 (F + 1 + l.length)) (l1 := Int32.ofNat (48 * h + f)) (l3 := x) (l4 := Int32.ofNat (80 * B)) hm (show 80 * B + k < 160 by omega) 4 0 999995 false rfl
    have ef : e0 = false := Bool.eq_false_iff.mpr (fun q => by cases (q0.mp q).1)
    rw [ef, if_neg (show ¬false = true by decide), if_neg (show ¬false = true by decide)] at f0
    have f0 : fn_Mo_versionOf_57 (fn_Mo_versionOf_13 (F + 1 + l.length)) wd_F (Int32.ofNat (48 * h + f)) (Int32.ofNat m) x (Int32.ofNat (80 * B)) (Int32.ofNat (80 * B + k)) 0 0 S = _ := f0
    obtain ⟨e1, f1, q1⟩ := mv_57 (S := S) (kk := fn_Mo_versionOf_13 (F + 1 + l.length)) (l1 := Int32.ofNat (48 * h + f)) (l3 := x) (l4 := Int32.ofNat (80 * B)) hm (show 80 * B + k < 160 by omega) 4 0 999995 true rfl
    rw [if_pos (rfl : true = true)] at f1
    have f1 : fn_Mo_versionOf_57 (fn_Mo_versionOf_13 (F + 1 + l.length)) wd_F (Int32.ofNat (48 * h + f)) (Int32.ofNat m) x (Int32.ofNat (80 * B)) (Int32.ofNat (80 * B + k)) 1 0 S = _ := f1
    rw [f0, f1]
    by_cases e2 : q.1 = f
    · rw [if_pos (show Int32.ofNat (48 * h + q.1) = Int32.ofNat (48 * h + f) by rw [e2])]
      by_cases e3 : q.2.1 = m
      · rw [if_pos (show Int32.ofNat q.2.1 = Int32.ofNat m by rw [e3])]
        cases he : e1 with
        | true =>
          rw [if_pos (rfl : true = true), mk_fd, if_pos (mk_is_iff.mpr ⟨e2, e3, fun i h1 h2 => by rw [← a4 i h1, (q1.mp he).2 i h1 (Nat.zero_le _) h2, hkn i h1 h2]⟩)]
        | false =>
          rw [if_neg (show ¬false = true by decide)]
          refine hno (mk_is_no (fun w => ?_))
          rw [q1.mpr ⟨rfl, fun j h1 _ h2 => by rw [a4 j h1, w.2.2 j h1 h2, hkn j h1 h2]⟩] at he
          cases he
      · rw [if_neg (show ¬Int32.ofNat q.2.1 = Int32.ofNat m from fun z => e3 ((im_eq (by omega) (by omega)).mp z))]
        exact hno (mk_is_no (fun w => e3 w.2.1))
    · rw [if_neg (show ¬Int32.ofNat (48 * h + q.1) = Int32.ofNat (48 * h + f) from fun z => e2 (by have := (im_eq (by omega) (by omega)).mp z; omega))]
      exact hno (mk_is_no (fun w => e2 w.1))
theorem mv_179 (hm : m < 16) (hp : p < 160) (hkn : ∀ i, i < 4 → mk_bt m i = true → S.1 171 i = kn i) : ∀ (r i F : Nat) (S1 : wd_S), i + r = 4 → of_f (fun a j => a = 161 ∧ 4 * p ≤ j ∧ j < 4 * p + 4) S S1 → (∀ j, j < i → S1.1 161 (4 * p + j) = if mk_bt m j = true then kn j else 0) → ∃ S', fn_Mo_versionOf_179 (F + 1 + r) (Int32.ofNat m) (Int32.ofNat p) (Int32.ofNat i) S1 = some (Int32.ofNat p, S') ∧ of_f (fun a j => a = 161 ∧ 4 * p ≤ j ∧ j < 4 * p + 4) S S' ∧ ∀ j, j < 4 → S'.1 161 (4 * p + j) = if mk_bt m j = true then kn j else 0 := by
  intro r
  induction r with
  | zero =>
    intro i F S1 hi ho hj
    have hi : i = 4 := hi
    subst hi
    refine ⟨S1, ?_, ho, hj⟩
    rw [Nat.add_zero, fn_Mo_versionOf_179, if_neg (show ¬Int32.ofNat 4 < 4 by decide)]
  | succ r ih =>
    intro i F S1 hi ho hj
    have hi4 : i < 4 := by omega
    have ea : (4 : Int32) * Int32.ofNat p + Int32.ofNat i = Int32.ofNat (4 * p + i) := by rw [show (4 : Int32) = Int32.ofNat 4 from rfl, im_ma]
    have fin : ∀ x, (x = if mk_bt m i = true then kn i else 0) → ∃ S', fn_Mo_versionOf_217 (fn_Mo_versionOf_179 (F + 1 + r)) (Int32.ofNat m) (Int32.ofNat p) (Int32.ofNat i) (Int32.ofNat (4 * p + i)) x S1 = some (Int32.ofNat p, S') ∧ of_f (fun a j => a = 161 ∧ 4 * p ≤ j ∧ j < 4 * p + 4) S S' ∧ ∀ j, j < 4 → S'.1 161 (4 * p + j) = if mk_bt m j = true then kn j else 0 := fun x hx => by
      unfold fn_Mo_versionOf_217
      simp only [wd_b]
      rw [if_neg (ms_in (show 4 * p + i < 640 by omega) (by decide)), im_t (show 4 * p + i < 2147483648 by omega), im_s]
      refine ih (i + 1) F _ (by omega) (of_i (by omega) ho) (fun j h1 => ?_)
      by_cases e : j = i
      · rw [e, fr_eq, hx]
      · rw [fr_ne (by omega)]; exact hj j (by omega)
    show ∃ S', fn_Mo_versionOf_179 (F + 1 + r + 1) (Int32.ofNat m) (Int32.ofNat p) (Int32.ofNat i) S1 = _ ∧ _
    rw [fn_Mo_versionOf_179, if_pos (show Int32.ofNat i < 4 from (im_lt (m := i) (n := 4) (by omega) (by omega)).mpr hi4), mk_i_bt m hm i hi4, ea, if_neg (ms_in hi4 (by decide)), im_t (show i < 2147483648 by omega)]
    cases hb : mk_bt m i with
    | false =>
      rw [if_neg (show ¬false = true by decide), if_neg (show ¬(0 : Int32) = 1 by decide)]
      exact fin 0 (by rw [hb, if_neg (show ¬false = true by decide)])
    | true =>
      rw [if_pos (rfl : true = true), if_pos rfl, ho.1 171 i (by omega)]
      exact fin _ (by rw [hb, if_pos rfl, hkn i hi4 hb])
theorem mv_add (hB : B ≤ 1) (hv : mm_v B h pg vs S) (hpl : pg.length ≤ 48) (hpn : ∀ f, pg_n pg f ≤ 4) (hok : mk_ok pg (vs ++ [mk_new f m kn])) (hkn : ∀ i, i < 4 → mk_bt m i = true → S.1 171 i = kn i) : ∃ S', fn_Mo_versionOf_141 (Int32.ofNat (48 * h + f)) (Int32.ofNat m) (Int32.ofNat (80 * B)) S = some (Int32.ofNat (80 * B + vs.length), S') ∧ of_f (fun a b => (a = 135 ∧ b = 65) ∨ ((a = 159 ∨ a = 160) ∧ 80 * B ≤ b ∧ b < 80 * B + 80) ∨ (a = 161 ∧ 320 * B ≤ b ∧ b < 320 * B + 320)) S S' ∧ mm_v B h pg (vs ++ [mk_new f m kn]) S' := by
  have hl := mk_ok_len hok
  rw [List.length_append] at hl
  have hl : vs.length + 1 ≤ 30 + pg.length := hl
  obtain ⟨hf, hm⟩ := hok.1 (mk_new f m kn) (List.mem_append_right _ List.mem_cons_self)
  have hm : m < 2 ^ pg_n pg f := hm
  have hp16 : 2 ^ pg_n pg f ≤ 2 ^ 4 := Nat.pow_le_pow_right (by decide) (hpn _)
  have hm16 : m < 16 := by omega
  have ew : Int32.ofNat (80 * B) + Int32.ofNat vs.length = Int32.ofNat (80 * B + vs.length) := (Int32.ofNat_add _ _).symm
  unfold fn_Mo_versionOf_141
  simp only [wd_b]
  rw [hv.1, ew, im_s, if_neg (ms_in (show 80 * B + vs.length < 160 by omega) (by decide)), if_neg (ms_in (show 80 * B + vs.length < 160 by omega) (by decide)), im_t (show 80 * B + vs.length < 2147483648 by omega)]
  generalize hS3 : wd_i (wd_i (wd_i S 135 65 (Int32.ofNat (vs.length + 1))) 159 (80 * B + vs.length) (Int32.ofNat (48 * h + f))) 160 (80 * B + vs.length) (Int32.ofNat m) = S3
  have o3 : of_f (fun a j => (a = 135 ∧ j = 65) ∨ ((a = 159 ∨ a = 160) ∧ j = 80 * B + vs.length)) S S3 := by
    rw [← hS3]
    exact of_i (by omega) (of_i (by omega) (of_i (by omega) of_refl))
  have v1 : S3.1 135 65 = Int32.ofNat (vs.length + 1) := by rw [← hS3, fr_ne (by omega), fr_ne (by omega), fr_eq]
  have v20 : S3.1 159 (80 * B + vs.length) = Int32.ofNat (48 * h + f) := by rw [← hS3, fr_ne (by omega), fr_eq]
  have v22 : S3.1 160 (80 * B + vs.length) = Int32.ofNat m := by rw [← hS3, fr_eq]
  clear hS3
  obtain ⟨S4, f4, o4, c4⟩ := mv_179 (S := S3) (kn := kn) hm16 (show 80 * B + vs.length < 160 by omega) (fun i h1 h2 => by rw [o3.1 171 i (by omega)]; exact hkn i h1 h2) 4 0 999995 S3 rfl of_refl (fun j hj => absurd hj (Nat.not_lt_zero _))
  refine ⟨S4, f4, of_trans (of_mono (fun a k q => by omega) o3) (of_mono (fun a k q => by omega) o4), ?_, hok, fun j hj => ?_⟩
  · rw [o4.1 135 65 (by omega), v1, List.length_append]
    rfl
  · rw [List.length_append] at hj
    have hj : j < vs.length + 1 := hj
    by_cases e : j = vs.length
    · subst e
      rw [List.getElem_append_right (Nat.le_refl _)]
      simp only [Nat.sub_self, List.getElem_cons_zero]
      exact ⟨by rw [o4.1 159 _ (by omega)]; exact v20, by rw [o4.1 160 _ (by omega)]; exact v22, c4⟩
    · have hj2 : j < vs.length := by omega
      rw [List.getElem_append_left hj2]
      obtain ⟨k1, k2, k4⟩ := hv.2.2 j hj2
      refine ⟨?_, ?_, fun i hi => ?_⟩
      · rw [o4.1 159 _ (by omega), o3.1 159 _ (by omega)]; exact k1
      · rw [o4.1 160 _ (by omega), o3.1 160 _ (by omega)]; exact k2
      · rw [o4.1 161 _ (by omega), o3.1 161 _ (by omega)]; exact k4 i hi
theorem mv_of (hB : B ≤ 1) (hh : h ≤ 1) (h64 : S.1 135 64 = Int32.ofNat B) (hm : m < 16) (hf : f < 48) (hv : mm_v B h pg vs S) (hpl : pg.length ≤ 48) (hpn : ∀ f, pg_n pg f ≤ 4) (hkn : ∀ i, i < 4 → mk_bt m i = true → S.1 171 i = kn i) : fn_Mo_versionOf (Int32.ofNat (48 * h + f)) (Int32.ofNat m) x S = match mk_fd f m kn vs 0 with
    | some j => some (Int32.ofNat (80 * B + j), S)
    | none => mv_tl (Int32.ofNat (48 * h + f)) (Int32.ofNat m) x (Int32.ofNat (80 * B)) S := by
  have hl := mk_ok_len hv.2.1
  have e8 : (80 : Int32) * Int32.ofNat B = Int32.ofNat (80 * B) := by rw [show (80 : Int32) = Int32.ofNat 80 from rfl, ← Int32.ofNat_mul]
  unfold fn_Mo_versionOf
  rw [h64, e8, show wd_F = (999999 - vs.length) + 1 + vs.length by rw [show wd_F = 1000000 from rfl]; omega]
  exact mv_13 hB hh hm hf hv hpl hpn hkn vs 0 _ rfl (Nat.zero_le _)
end Mm7
end
/-! part b17 -/
section
/-! The reference's maker: a call's arguments. -/
def mm_nzs : List mk_R → Nat
  | [] => 0
  | a :: r => mm_nz a + mm_nzs r
def mm_is : List mk_R → Nat
  | [] => 0
  | a :: r => mm_i a + mm_is r
theorem mm_nzs_a : ∀ l r : List mk_R, mm_nzs (l ++ r) = mm_nzs l + mm_nzs r := by
  intro l r
  induction l with
  | nil => exact (Nat.zero_add _).symm
  | cons a l ih => show mm_nz a + mm_nzs (l ++ r) = mm_nz a + mm_nzs l + mm_nzs r; omega
theorem mm_is_a : ∀ l r : List mk_R, mm_is (l ++ r) = mm_is l + mm_is r := by
  intro l r
  induction l with
  | nil => exact (Nat.zero_add _).symm
  | cons a l ih => show mm_i a + mm_is (l ++ r) = mm_i a + mm_is l + mm_is r; omega
theorem mm_szs : ∀ l : List mk_R, (∀ R, R ∈ l → mk_nn R) → mm_nzs l + mm_is l = mk_sz l := by
  intro l
  induction l with
  | nil => intro _; rfl
  | cons a l ih =>
    intro hl
    have := ih (fun R hR => hl R (List.mem_cons_of_mem _ hR))
    have := mm_nzi (hl a List.mem_cons_self)
    show mm_nz a + mm_nzs l + (mm_i a + mm_is l) = a.2.1 + mk_sz l
    omega
theorem mm_is_le : ∀ l : List mk_R, mm_is l ≤ l.length := by
  intro l
  induction l with
  | nil => exact Nat.le_refl _
  | cons a l ih =>
    have := mm_i1 a
    show mm_i a + mm_is l ≤ l.length + 1
    omega
/-- the arguments that stay -/
def mm_kp (b : Bool) (l : List mk_R) : List mk_R := if b = true then mk_kp l else l
theorem mm_kp_nz (l : List mk_R) : mm_nzs (mk_kp l) = mm_nzs l ∧ mm_is (mk_kp l) = 0 ∧ (mk_kp l).length + mm_is l = l.length := by
  induction l with
  | nil => exact ⟨rfl, rfl, rfl⟩
  | cons a l ih =>
    obtain ⟨h1, h2, h3⟩ := ih
    by_cases e : tr_k a.1 = 1
    · have ek : mk_kp (a :: l) = mk_kp l := List.filter_cons_of_neg (by rw [decide_eq_true_iff]; exact fun q => q e)
      have k1 : mm_nz a = 0 := if_pos e
      have k2 : mm_i a = 1 := if_pos e
      rw [ek]
      exact ⟨by show _ = mm_nz a + mm_nzs l; omega, h2, by show (mk_kp l).length + (mm_i a + mm_is l) = l.length + 1; omega⟩
    · have ek : mk_kp (a :: l) = a :: mk_kp l := List.filter_cons_of_pos (decide_eq_true e)
      have k2 : mm_i a = 0 := if_neg e
      rw [ek]
      exact ⟨by show mm_nz a + mm_nzs (mk_kp l) = mm_nz a + mm_nzs l; omega, by show mm_i a + mm_is (mk_kp l) = 0; omega, by show (mk_kp l).length + 1 + (mm_i a + mm_is l) = l.length + 1; omega⟩
section Mm8
variable {B h : Nat} {pg : pg_T} {S0 S S' S1 S2 S3 : wd_S} {N N' : mk_N} {s s' : mk_S} {k n mn ma ml k' n' mn' ma' ml' mn1 ma1 ml1 y z d r c p i f m a : Nat} {t : tr_T} {x v : Int32} {R : mk_R} {kn : Nat → Int32} {as : List mk_R}
theorem mc_28 (hn : n + 4 ≤ 4000) (ha : as.length ≤ 4) (hr : ∀ j, (hj : j < as.length) → (S.1 167 (n + j) = 0 ↔ ¬tr_k as[j].1 = 1)) : ∀ (r i F : Nat) (S1 : wd_S), i + r = as.length → of_f (fun a b => a = 171) S S1 → (∀ j, j < i → S1.1 171 j = S.1 168 (n + j)) → ∃ S', fn_Mo_onCalled_28 (F + 1 + r) (Int32.ofNat y) (Int32.ofNat as.length) (Int32.ofNat n) (Int32.ofNat (mk_mk (mk_nb as) i)) (Int32.ofNat i) S1 = (if Int32.ofNat (mk_ma as) = Int32.ofNat (2 ^ as.length - 1) then fn_Mo_onCalled_94 wd_F (Int32.ofNat y) (Int32.ofNat as.length) (Int32.ofNat n) (Int32.ofNat (mk_ma as)) 0 S' else fn_Mo_onCalled_174 (Int32.ofNat y) (Int32.ofNat as.length) (Int32.ofNat n) (Int32.ofNat (mk_ma as)) S') ∧ of_f (fun a b => a = 171) S S' ∧ ∀ j, j < as.length → S'.1 171 j = S.1 168 (n + j) := by
  intro r
  induction r with
  | zero =>
    intro i F S1 hi ho hj
    have hi : i = as.length := hi
    subst hi
    refine ⟨S1, ?_, ho, hj⟩
    rw [Nat.add_zero, fn_Mo_onCalled_28, if_neg Int32.lt_irrefl, mk_i_pm _ (by omega)]
    rfl
  | succ r ih =>
    intro i F S1 hi ho hj
    have hil : i < as.length := by omega
    have ea : Int32.ofNat n + Int32.ofNat i = Int32.ofNat (n + i) := (Int32.ofNat_add _ _).symm
    have hnb : mk_nb as i = decide (tr_k as[i].1 = 1) := by unfold mk_nb mk_at; rw [List.getD_eq_getElem?_getD, List.getElem?_eq_getElem hil]; rfl
    have fin : ∀ x, (x = if mk_nb as i = true then 2 ^ i else 0) → ∃ S', fn_Mo_onCalled_56 (fn_Mo_onCalled_28 (F + 1 + r)) (Int32.ofNat y) (Int32.ofNat as.length) (Int32.ofNat n) (Int32.ofNat i) (Int32.ofNat (mk_mk (mk_nb as) i)) (if mk_nb as i = true then ((1 : Int32) <<< (Int32.ofNat i &&& 31)) else 0) S1 = (if Int32.ofNat (mk_ma as) = Int32.ofNat (2 ^ as.length - 1) then fn_Mo_onCalled_94 wd_F (Int32.ofNat y) (Int32.ofNat as.length) (Int32.ofNat n) (Int32.ofNat (mk_ma as)) 0 S' else fn_Mo_onCalled_174 (Int32.ofNat y) (Int32.ofNat as.length) (Int32.ofNat n) (Int32.ofNat (mk_ma as)) S') ∧ of_f (fun a b => a = 171) S S' ∧ ∀ j, j < as.length → S'.1 171 j = S.1 168 (n + j) := fun x hx => by
      have eo : Int32.ofNat (mk_mk (mk_nb as) i) ||| (if mk_nb as i = true then ((1 : Int32) <<< (Int32.ofNat i &&& 31)) else 0) = Int32.ofNat (mk_mk (mk_nb as) (i + 1)) := by
        show _ = Int32.ofNat (mk_mk (mk_nb as) i + (if mk_nb as i = true then 2 ^ i else 0))
        cases mk_nb as i with
        | true => rw [if_pos (rfl : true = true), if_pos (rfl : true = true)]; exact mk_i_or i (by omega) _ (mk_mk_lt _ i)
        | false => rw [if_neg (show ¬false = true by decide), if_neg (show ¬false = true by decide), Nat.add_zero, Int32.or_zero]
      unfold fn_Mo_onCalled_56
      simp only [wd_b]
      rw [ea, if_neg (ms_in (show n + i < 4000 by omega) (by decide)), if_neg (ms_in (show i < 4 by omega) (by decide)), im_t (show n + i < 2147483648 by omega), im_t (show i < 2147483648 by omega), eo, im_s, ho.1 168 (n + i) (by omega)]
      refine ih (i + 1) F _ (by omega) (of_i rfl ho) (fun j h1 => ?_)
      by_cases e : j = i
      · rw [e, fr_eq]
      · rw [fr_ne (by omega)]; exact hj j (by omega)
    show ∃ S', fn_Mo_onCalled_28 (F + 1 + r + 1) (Int32.ofNat y) (Int32.ofNat as.length) (Int32.ofNat n) (Int32.ofNat (mk_mk (mk_nb as) i)) (Int32.ofNat i) S1 = _ ∧ _
    rw [fn_Mo_onCalled_28, if_pos ((im_lt (by omega) (by omega)).mpr hil), ea, if_neg (ms_in (show n + i < 4000 by omega) (by decide)), im_t (show n + i < 2147483648 by omega), ho.1 167 (n + i) (by omega)]
    have fin := fin _ rfl
    by_cases e : tr_k as[i].1 = 1
    · rw [if_neg (fun q => (hr i hil).mp q e)]
      rw [hnb, decide_eq_true e, if_pos (rfl : true = true)] at fin
      exact fin
    · rw [if_pos ((hr i hil).mpr e)]
      rw [hnb, decide_eq_false e, if_neg (show ¬false = true by decide)] at fin
      exact fin
/-- the numbers of a call that is tried -/
theorem mc_94 (hn : n + 4 ≤ 4000) (ha : a ≤ 4) {m : Int32} : ∀ (r i F : Nat) (S1 : wd_S), i + r = a → of_f (fun a b => a = 158) S S1 → (∀ j, j < i → S1.1 158 j = S.1 168 (n + j)) → ∃ S', fn_Mo_onCalled_94 (F + 1 + r) (Int32.ofNat y) (Int32.ofNat a) (Int32.ofNat n) m (Int32.ofNat i) S1 = fn_Mo_onCalled_94 (F + 1) (Int32.ofNat y) (Int32.ofNat a) (Int32.ofNat n) m (Int32.ofNat a) S' ∧ of_f (fun a b => a = 158) S S' ∧ ∀ j, j < a → S'.1 158 j = S.1 168 (n + j) := by
  intro r
  induction r with
  | zero =>
    intro i F S1 hi ho hj
    have hi : i = a := hi
    subst hi
    exact ⟨S1, rfl, ho, hj⟩
  | succ r ih =>
    intro i F S1 hi ho hj
    have ea : Int32.ofNat n + Int32.ofNat i = Int32.ofNat (n + i) := (Int32.ofNat_add _ _).symm
    show ∃ S', fn_Mo_onCalled_94 (F + 1 + r + 1) (Int32.ofNat y) (Int32.ofNat a) (Int32.ofNat n) m (Int32.ofNat i) S1 = _ ∧ _
    rw [fn_Mo_onCalled_94, if_pos ((im_lt (by omega) (by omega)).mpr (by omega))]
    simp only [wd_b]
    rw [ea, if_neg (ms_in (show n + i < 4000 by omega) (by decide)), if_neg (ms_in (show i < 2640 by omega) (by decide)), im_t (show n + i < 2147483648 by omega), im_t (show i < 2147483648 by omega), im_s, ho.1 168 (n + i) (by omega)]
    refine ih (i + 1) F _ (by omega) (of_i rfl ho) (fun j h1 => ?_)
    by_cases e : j = i
    · rw [e, fr_eq]
    · rw [fr_ne (by omega)]; exact hj j (by omega)
/-- nodes for the arguments that stay -/
theorem mc_224 (hX : mm_X B h pg S0) (hn : n + 4 ≤ 4000) (ha : a ≤ 4) (hm : m < 16) (hr1 : 1 ≤ r ∨ a = 0) (b : Bool) {vv : Int32} : ∀ (rs : List mk_R) (i mn : Nat) (zs : List (Nat × mk_R)) (F : Nat) (S : wd_S), i + rs.length = a → zs.length ≤ i → mm_h B h pg S0 N s k n mn ma ml S → (∀ j, (hj : j < rs.length) → mm_r B mn ma r (n + (i + j)) rs[j] S ∧ mk_bt m (i + j) = (b && decide (tr_k rs[j].1 = 1))) → (∀ j, (hj : j < zs.length) → S.1 172 j = Int32.ofNat zs[j].1 ∧ mm_t B mn ma r zs[j].1 zs[j].2.1 S) → mn + mm_is (mm_kp b rs) + 1 ≤ 1000 → ∃ (S' : wd_S) (zs' : List (Nat × mk_R)), fn_Mo_onCalled_224 (F + 1 + rs.length) (Int32.ofNat a) (Int32.ofNat n) (Int32.ofNat m) vv (Int32.ofNat zs.length) (Int32.ofNat i) S = fn_Mo_onCalled_224 (F + 1) (Int32.ofNat a) (Int32.ofNat n) (Int32.ofNat m) vv (Int32.ofNat zs'.length) (Int32.ofNat a) S' ∧ zs'.map (fun p => p.2) = zs.map (fun p => p.2) ++ mm_kp b rs ∧ mm_h B h pg S0 N s k n (mn + mm_is (mm_kp b rs)) ma ml S' ∧ (∀ j, (hj : j < zs'.length) → S'.1 172 j = Int32.ofNat zs'[j].1 ∧ mm_t B (mn + mm_is (mm_kp b rs)) ma r zs'[j].1 zs'[j].2.1 S') ∧ of_f (mm_F B k n mn ma) S S' ∧ ∀ a' x, a' = 158 ∨ (159 ≤ a' ∧ a' ≤ 161) ∨ a' = 171 ∨ (a' = 135 ∧ x = 67) → S'.1 a' x = S.1 a' x := by
  intro rs
  induction rs with
  | nil =>
    intro i mn zs F S hi hz hh _ hzs _
    have hi : i = a := hi
    subst hi
    have e0 : mm_kp b [] = [] := by cases b <;> rfl
    refine ⟨S, zs, rfl, by rw [e0, List.append_nil], ?_, ?_, of_refl, fun _ _ _ => rfl⟩
    · rw [e0]; exact hh
    · rw [e0]; exact hzs
  | cons R rs ih =>
    intro i mn zs F S hi hz hh hrs hzs hb
    have hi : i + (rs.length + 1) = a := hi
    obtain ⟨q1, q2⟩ := hrs 0 (Nat.zero_lt_succ _)
    have q1 : mm_r B mn ma r (n + i) R S := q1
    have q2 : mk_bt m i = (b && decide (tr_k R.1 = 1)) := q2
    have ea : Int32.ofNat n + Int32.ofNat i = Int32.ofNat (n + i) := (Int32.ofNat_add _ _).symm
    show ∃ (S' : wd_S) (zs' : List (Nat × mk_R)), fn_Mo_onCalled_224 (F + 1 + rs.length + 1) (Int32.ofNat a) (Int32.ofNat n) (Int32.ofNat m) vv (Int32.ofNat zs.length) (Int32.ofNat i) S = _ ∧ _
    rw [fn_Mo_onCalled_224, if_pos ((im_lt (by omega) (by omega)).mpr (by omega)), mk_i_bt m hm i (by omega)]
    unfold fn_Mo_onCalled_256
    simp only [wd_b]
    rw [im_s i]
    by_cases hd : (b && decide (tr_k R.1 = 1)) = true
    · have hbt : b = true := (Bool.and_eq_true _ _ ▸ hd).1
      have hk1 : tr_k R.1 = 1 := of_decide_eq_true (Bool.and_eq_true _ _ ▸ hd).2
      subst hbt
      have ek : mm_kp true (R :: rs) = mm_kp true rs := show mk_kp (R :: rs) = mk_kp rs from List.filter_cons_of_neg (by rw [decide_eq_true_iff]; exact fun q => q hk1)
      rw [q2, hd, if_pos (rfl : true = true), if_neg (show ¬(1 : Int32) = 0 by decide)]
      rw [ek] at hb ⊢
      exact ih (i + 1) mn zs F S (by omega) (by omega) hh (fun j hj => by
        have := hrs (j + 1) (Nat.succ_lt_succ hj)
        rw [show i + (j + 1) = i + 1 + j by omega] at this
        exact this) hzs hb
    · have hd2 : (b && decide (tr_k R.1 = 1)) = false := Bool.eq_false_iff.mpr hd
      have ek : mm_kp b (R :: rs) = R :: mm_kp b rs := by
        cases b with
        | false => rfl
        | true => exact show mk_kp (R :: rs) = R :: mk_kp rs from List.filter_cons_of_pos (decide_eq_true (fun q => hd (by rw [decide_eq_true q]; rfl)))
      rw [ek] at hb ⊢
      have hb : mn + (mm_i R + mm_is (mm_kp b rs)) + 1 ≤ 1000 := hb
      rw [q2, hd2, if_neg (show ¬false = true by decide), if_pos rfl, ea]
      obtain ⟨x1, S3, f3, h3, t3, o3⟩ := mm_node hX hh (show n + i < 4000 by omega) q1 (by omega) (by omega)
      have h3 : mm_h B h pg S0 N s k n (mn + mm_i R) ma ml S3 := h3
      have t3 : mm_t B (mn + mm_i R) ma r x1 R.1 S3 := t3
      rw [f3, wd_c_s, if_neg (ms_in (show zs.length < 4 by omega) (by decide)), im_t (show zs.length < 2147483648 by omega), im_s zs.length]
      have o4 : of_f (fun a b => a = 172) S3 (wd_i S3 172 zs.length (Int32.ofNat x1)) := of_i rfl of_refl
      have h4 : mm_h B h pg S0 N s k n (mn + mm_i R) ma ml (wd_i S3 172 zs.length (Int32.ofNat x1)) := by
        obtain ⟨a1, a2, a3, a4, a5, a6, a7, a8, a9, a10, a11, a12, a13⟩ := id h3
        exact mm_hw (k0 := 0) (n0 := 0) (mn0 := 0) (ma0 := 0) h3 (of_mono (fun a b z => by unfold mm_w; omega) o4) (by rw [fr_ne (by omega)]; exact a2) (by rw [fr_ne (by omega)]; exact a3) (by rw [fr_ne (by omega)]; exact a6) (by rw [fr_ne (by omega)]; exact a9) (by rw [fr_ne (by omega)]; exact a10) a11 a12
      have v4 : (wd_i S3 172 zs.length (Int32.ofNat x1)).1 172 zs.length = Int32.ofNat x1 := fr_eq
      have u4 : ∀ j, j ≠ zs.length → (wd_i S3 172 zs.length (Int32.ofNat x1)).1 172 j = S3.1 172 j := fun j hj => fr_ne (by omega)
      generalize wd_i S3 172 zs.length (Int32.ofNat x1) = S4 at *
      have w4 : ∀ k0 n0 mn0 ma0, of_f (mm_F B k0 n0 mn0 ma0) S3 S4 := fun k0 n0 mn0 ma0 => of_mono (fun a b z => mm_w_F a b (by unfold mm_w; omega)) o4
      have w3 : ∀ k0 n0, of_f (mm_F B k0 n0 mn ma) S S3 := fun k0 n0 => mm_nw hX (by omega) o3 (Nat.le_refl _)
      have el : zs.length + 1 = (zs ++ [(x1, R)]).length := by rw [List.length_append]; rfl
      rw [el]
      obtain ⟨S5, zs5, f5, m5, h5, z5, o5, p5⟩ := ih (i + 1) (mn + mm_i R) (zs ++ [(x1, R)]) F S4 (by omega) (by rw [← el]; omega) h4 (fun j hj => by
        have := hrs (j + 1) (Nat.succ_lt_succ hj)
        rw [show i + (j + 1) = i + 1 + j by omega] at this
        exact ⟨mm_r_o (w4 0 4000 (mn + mm_i R) ma) (by omega) (Nat.le_refl _) (Nat.le_refl _) (mm_r_o (w3 0 4000) (by omega) (Nat.le_add_right _ _) (Nat.le_refl _) this.1), this.2⟩) (fun j hj => by
        rw [← el] at hj
        by_cases e : j = zs.length
        · subst e
          rw [List.getElem_append_right (Nat.le_refl _)]
          simp only [Nat.sub_self, List.getElem_cons_zero]
          exact ⟨v4, mm_t_o (w4 0 0 (mn + mm_i R) ma) (Nat.le_refl _) (Nat.le_refl _) t3⟩
        · rw [List.getElem_append_left (show j < zs.length by omega)]
          obtain ⟨e1, e2⟩ := hzs j (by omega)
          exact ⟨by rw [u4 j e, o3.1 172 j (by omega)]; exact e1, mm_t_o (w4 0 0 (mn + mm_i R) ma) (Nat.le_refl _) (Nat.le_refl _) (mm_t_o (w3 0 0) (Nat.le_add_right _ _) (Nat.le_refl _) e2)⟩) (by omega)
      have es : mn + mm_i R + mm_is (mm_kp b rs) = mn + mm_is (R :: mm_kp b rs) := by
        show _ = mn + (mm_i R + mm_is (mm_kp b rs))
        omega
      rw [es] at h5 z5
      refine ⟨S5, zs5, f5, ?_, h5, z5, of_trans (w3 k n) (of_trans (w4 k n mn ma) (of_mono (mm_F_le (Nat.le_refl _) (Nat.le_refl _) (Nat.le_add_right _ _) (Nat.le_refl _)) o5)), fun a' x' q => ?_⟩
      · rw [m5, List.map_append, List.append_assoc]
        rfl
      · rw [p5 a' x' q, o4.1 a' x' (by omega), o3.1 a' x' (by omega)]
/-- arguments are laid -/
theorem mc_302 (hB : B ≤ 1) {κ : Nat} (hκ : κ ≤ 4) (hma : ma + 4 ≤ 2000) {w : Int32} : ∀ (q j F : Nat) (S1 : wd_S), j + q = κ → of_f (fun a b => (a = 135 ∧ b = 67) ∨ (a = 149 ∧ 3004 + 6002 * B + ma ≤ b ∧ b < 3004 + 6002 * B + ma + κ)) S S1 → S1.1 135 67 = Int32.ofNat (3004 + 6002 * B + (ma + j)) → (∀ i, i < j → S1.1 149 (3004 + 6002 * B + (ma + i)) = S.1 172 i) → ∃ S', fn_Mo_onCalled_302 (F + 1 + q) (Int32.ofNat κ) w (Int32.ofNat j) S1 = fn_Mo_gives 0 w S' ∧ of_f (fun a b => (a = 135 ∧ b = 67) ∨ (a = 149 ∧ 3004 + 6002 * B + ma ≤ b ∧ b < 3004 + 6002 * B + ma + κ)) S S' ∧ S'.1 135 67 = Int32.ofNat (3004 + 6002 * B + (ma + κ)) ∧ ∀ i, i < κ → S'.1 149 (3004 + 6002 * B + (ma + i)) = S.1 172 i := by
  intro q
  induction q with
  | zero =>
    intro j F S1 hj ho h67 hi
    have hj : j = κ := hj
    subst hj
    refine ⟨S1, ?_, ho, h67, hi⟩
    rw [Nat.add_zero, fn_Mo_onCalled_302, if_neg Int32.lt_irrefl]
    exact wd_d_id _
  | succ q ih =>
    intro j F S1 hj ho h67 hi
    show ∃ S', fn_Mo_onCalled_302 (F + 1 + q + 1) (Int32.ofNat κ) w (Int32.ofNat j) S1 = _ ∧ _
    rw [fn_Mo_onCalled_302, if_pos ((im_lt (by omega) (by omega)).mpr (by omega))]
    simp only [wd_b]
    rw [h67, if_neg (ms_in (show j < 4 by omega) (by decide)), if_neg (ms_in (show 3004 + 6002 * B + (ma + j) < 15010 by omega) (by decide)), im_t (show j < 2147483648 by omega), im_t (show 3004 + 6002 * B + (ma + j) < 2147483648 by omega), fr_ne (show ¬(135 = 149 ∧ _) by omega), h67, im_s, im_s, ho.1 172 j (by omega)]
    refine ih (j + 1) F _ (by omega) (of_i (by omega) (of_i (by omega) ho)) (by rw [fr_eq]; rfl) (fun i h1 => ?_)
    by_cases e : i = j
    · rw [e, fr_ne (by omega), fr_eq]
    · rw [fr_ne (by omega), fr_ne (by omega)]; exact hi i (by omega)
end Mm8
end
