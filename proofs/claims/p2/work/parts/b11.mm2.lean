/-! The reference's maker: tasks, results, nodes. -/
def ml_p (k : Nat) (x y : Int32) (S : wd_S) : wd_S := wd_i (wd_i (wd_i S 165 k x) 166 k y) 135 76 (Int32.ofNat (k + 1))
def mg_p (n : Nat) (x y : Int32) (S : wd_S) : wd_S := wd_i (wd_i (wd_i S 167 n x) 168 n y) 135 79 (Int32.ofNat (n + 1))
def mm_w (B k n mn ma a b : Nat) : Prop := (a = 135 ∧ (b = 66 ∨ b = 67 ∨ b = 70 ∨ b = 76 ∨ b = 79)) ∨ (143 ≤ a ∧ a ≤ 146 ∧ 3004 + 6002 * B + mn ≤ b ∧ b < 3004 + 6002 * B + 6000) ∨ (a = 149 ∧ 3004 + 6002 * B + ma ≤ b ∧ b < 3004 + 6002 * B + 6000) ∨ ((a = 165 ∨ a = 166) ∧ k ≤ b) ∨ ((a = 167 ∨ a = 168) ∧ n ≤ b) ∨ a = 172
theorem mm_w_F {B k n mn ma : Nat} : ∀ a b, mm_w B k n mn ma a b → mm_F B k n mn ma a b := by
  intro a b h
  unfold mm_w at h
  unfold mm_F
  rcases h with h | h | h | h | h | h
  · exact Or.inl ⟨h.1, by omega⟩
  · exact Or.inr (Or.inl h)
  · exact Or.inr (Or.inr (Or.inl h))
  · exact Or.inr (Or.inr (Or.inr (Or.inr (Or.inr (Or.inr (Or.inr (Or.inr (Or.inr (Or.inl h)))))))))
  · exact Or.inr (Or.inr (Or.inr (Or.inr (Or.inr (Or.inr (Or.inr (Or.inr (Or.inr (Or.inr (Or.inl h))))))))))
  · exact Or.inr (Or.inr (Or.inr (Or.inr (Or.inr (Or.inr (Or.inr (Or.inr (Or.inr (Or.inr (Or.inr (by omega)))))))))))
section Mm2
variable {B h : Nat} {pg : pg_T} {S0 S S' S1 S2 : wd_S} {N N' : mk_N} {s s' : mk_S} {k n mn ma ml k' n' mn' ma' ml' y z d r c p : Nat} {t : tr_T} {x v : Int32} {R : mk_R}
theorem ms_iy {m L : Nat} (h : m < L) (hL : L < 2147483648) : ¬(Int32.ofNat m < 0 ∨ L ≤ m) := fun q => by
  rcases q with q | q
  · exact im_neg (by omega) q
  · omega
theorem ml_o : of_f (fun a b => (a = 135 ∧ b = 76) ∨ ((a = 165 ∨ a = 166) ∧ b = k)) S (ml_p k x v S) := of_i (by omega) (of_i (by omega) (of_i (by omega) of_refl))
theorem ml_row {a : Nat} (h1 : a ≠ 135) (h2 : a ≠ 165) (h3 : a ≠ 166) : (ml_p k x v S).1 a = S.1 a := by
  unfold ml_p
  rw [fr_row _ h1, fr_row _ h3, fr_row _ h2]
theorem ml_76 : (ml_p k x v S).1 135 76 = Int32.ofNat (k + 1) := fr_eq
theorem ml_165 {b : Nat} : (ml_p k x v S).1 165 b = if b = k then x else S.1 165 b := by
  unfold ml_p
  rw [fr_ne (by omega), fr_ne (by omega), fr_i1]
  by_cases e : b = k
  · rw [if_pos ⟨rfl, e⟩, if_pos e]
  · rw [if_neg (fun q => e q.2), if_neg e]
theorem ml_166 {b : Nat} : (ml_p k x v S).1 166 b = if b = k then v else S.1 166 b := by
  unfold ml_p
  rw [fr_ne (by omega), fr_i1]
  by_cases e : b = k
  · rw [if_pos ⟨rfl, e⟩, if_pos e]
  · rw [if_neg (fun q => e q.2), if_neg e, fr_ne (by omega)]
theorem mm_later (hk : S.1 135 76 = Int32.ofNat k) (h4 : k < 4000) : fn_Mo_later x v S = some (ml_p k x v S) := by
  have e2 : (wd_i S 165 k x).1 135 76 = Int32.ofNat k := by rw [fr_ne (by omega)]; exact hk
  have e3 : (wd_i (wd_i S 165 k x) 166 k v).1 135 76 = Int32.ofNat k := by rw [fr_ne (by omega)]; exact e2
  unfold fn_Mo_later fn_Mo_later_40
  simp only [wd_b]
  rw [hk, if_pos (show Int32.ofNat k < 4000 from (im_lt (m := k) (n := 4000) (by omega) (by omega)).mpr h4), if_neg (ms_in h4 (by decide)), im_t (show k < 2147483648 by omega), e2, if_neg (ms_in h4 (by decide)), im_t (show k < 2147483648 by omega), e3, im_s]
  rfl
theorem mm_gives (hn : S.1 135 79 = Int32.ofNat n) (h4 : n < 4000) (hx : x = 0 ∨ x = 1) : fn_Mo_gives x v S = some (mg_p n x v S) := by
  have e2 : (wd_i S 167 n x).1 135 79 = Int32.ofNat n := by rw [fr_ne (by omega)]; exact hn
  have e3 : (wd_i (wd_i S 167 n x) 168 n v).1 135 79 = Int32.ofNat n := by rw [fr_ne (by omega)]; exact e2
  have hf : mi_fit .boolean (.int x) = true := by rcases hx with z | z <;> rw [z] <;> rfl
  unfold fn_Mo_gives
  simp only [wd_b]
  rw [hn, if_neg (fun q => by rcases q with q | q; exact ms_in h4 (by decide) q; exact q hf), im_t (show n < 2147483648 by omega), e2, if_neg (ms_in h4 (by decide)), im_t (show n < 2147483648 by omega), e3, im_s]
  rfl
theorem mg_o : of_f (fun a b => (a = 135 ∧ b = 79) ∨ ((a = 167 ∨ a = 168) ∧ b = n)) S (mg_p n x v S) := of_i (by omega) (of_i (by omega) (of_i (by omega) of_refl))
theorem mg_167 : (mg_p n x v S).1 167 n = x := by unfold mg_p; rw [fr_ne (by omega), fr_ne (by omega), fr_eq]
theorem mg_168 : (mg_p n x v S).1 168 n = v := by unfold mg_p; rw [fr_ne (by omega), fr_eq]
theorem mg_79 : (mg_p n x v S).1 135 79 = Int32.ofNat (n + 1) := fr_eq
theorem mm_ad (B mn : Nat) : (3004 : Int32) + 6002 * Int32.ofNat B + Int32.ofNat mn = Int32.ofNat (3004 + 6002 * B + mn) := by
  rw [show (3004 : Int32) = Int32.ofNat 3004 from rfl, show (6002 : Int32) = Int32.ofNat 6002 from rfl, ← Int32.ofNat_mul, ← Int32.ofNat_add, ← Int32.ofNat_add]
theorem mm_fresh (hB : B ≤ 1) (h64 : S.1 135 64 = Int32.ofNat B) (h66 : S.1 135 66 = Int32.ofNat mn) (hm : mn ≤ 2000) : fn_Mo_fresh x S = some (Int32.ofNat (3004 + 6002 * B + mn), wd_i (wd_i S 135 66 (Int32.ofNat (mn + 1))) 143 (3004 + 6002 * B + mn) x) := by
  unfold fn_Mo_fresh
  simp only [wd_b]
  rw [h66, h64, mm_ad, if_pos (show Int32.ofNat mn < 6000 from (im_lt (m := mn) (n := 6000) (by omega) (by omega)).mpr (by omega)), if_neg (ms_in (show 3004 + 6002 * B + mn < 15010 by omega) (by decide)), im_t (show 3004 + 6002 * B + mn < 2147483648 by omega), im_s]
/-- what a step of this kind leaves of the state -/
theorem mm_hw {k0 n0 mn0 ma0 : Nat} (hh : mm_h B h pg S0 N s k n mn ma ml S) (ho : of_f (mm_w B k0 n0 mn0 ma0) S S') (e66 : S'.1 135 66 = Int32.ofNat mn') (e67 : S'.1 135 67 = Int32.ofNat (3004 + 6002 * B + ma')) (e70 : S'.1 135 70 = Int32.ofNat ml') (e76 : S'.1 135 76 = Int32.ofNat k') (e79 : S'.1 135 79 = Int32.ofNat n') (hmn : mn' ≤ 1000) (hma : ma' ≤ 1000) : mm_h B h pg S0 N s k' n' mn' ma' ml' S' := by
  obtain ⟨a1, -, -, a4, a5, -, a7, a8, -, -, -, -, a13, a14, a15⟩ := hh
  have e : ∀ b, b = 65 ∨ b = 68 ∨ b = 69 ∨ b = 71 ∨ b = 73 → S'.1 135 b = S.1 135 b := fun b hb => ho.1 135 b (by unfold mm_w; omega)
  have f : ∀ a b, (159 ≤ a ∧ a ≤ 161) ∨ a = 169 ∨ a = 170 → S'.1 a b = S.1 a b := fun a b hb => ho.1 a b (by unfold mm_w; omega)
  refine ⟨of_trans a1 (of_mono (fun a b q => mm_F_le (Nat.zero_le _) (Nat.zero_le _) (Nat.zero_le _) (Nat.zero_le _) a b (mm_w_F a b q)) ho), e66, e67, by rw [e 68 (by omega)]; exact a4, by rw [e 69 (by omega)]; exact a5, e70, by rw [e 71 (by omega)]; exact a7, by rw [e 73 (by omega)]; exact a8, e76, e79, hmn, hma, a13, fun i q hi => ?_, by rw [e 65 (by omega)]; exact a15.1, a15.2.1, fun j hj => ?_⟩
  · obtain ⟨b1, b2, b3, b4⟩ := a14 i q hi
    exact ⟨b1, by rw [f 169 i (by omega)]; exact b2, by rw [f 170 i (by omega)]; exact b3, b4⟩
  · obtain ⟨b1, b2, b3⟩ := a15.2.2 j hj
    exact ⟨by rw [f 159 _ (by omega)]; exact b1, by rw [f 160 _ (by omega)]; exact b2, fun i hi => by rw [f 161 _ (by omega)]; exact b3 i hi⟩
theorem mm_64 (hX : mm_X B h pg S0) (hh : of_f (mm_F B 0 0 0 0) S0 S) : S.1 135 64 = Int32.ofNat B := by rw [hh.1 135 64 (by unfold mm_F; omega)]; exact hX.2.2.1
/-- the text stays -/
theorem mm_txt (hX : mm_X B h pg S0) (hh : of_f (mm_F B 0 0 0 0) S0 S) (ht : mj_t S0 (48 * h) (1501 * h) (1501 * h + 1500) (1501 * h) (1501 * h + 1500) d y t) : mj_t S (48 * h) (1501 * h) (1501 * h + 1500) (1501 * h) (1501 * h + 1500) d y t := mj_t_m (Nat.le_refl _) (Nat.le_refl _) (Nat.le_refl _) (Nat.le_refl _) (mj_g_o hh (fun a b q1 q2 q3 q4 => by have := hX.2.1; unfold mm_F; omega) (fun b q1 q2 => by have := hX.2.1; unfold mm_F; omega)) d y t ht
theorem mm_t_o {k0 n0 : Nat} (ho : of_f (mm_F B k0 n0 mn ma) S S') (hmn : mn ≤ mn') (hma : ma ≤ ma') (ht : mm_t B mn ma d z t S) : mm_t B mn' ma' d z t S' := mj_t_m (Nat.le_refl _) (by omega) (Nat.le_refl _) (by omega) (mj_g_o ho (fun a b q1 q2 q3 q4 => by unfold mm_F; omega) (fun b q1 q2 => by unfold mm_F; omega)) d z t ht
theorem mj_t_s {X lo hi al ah : Nat} : ∀ (d y : Nat) (t : tr_T), mj_t S X lo hi al ah d y t → mj_t S X lo hi al ah (d + 1) y t := by
  intro d
  induction d with
  | zero => intro y t q; exact absurd q id
  | succ d ih => intro y t q; exact ⟨q.1, q.2.1, mj_b_m (fun z t w => ih z t w) (Nat.le_refl _) (Nat.le_refl _) ⟨rfl, rfl, rfl, rfl⟩ (fun _ _ _ => rfl) q.2.2⟩
theorem mj_t_le {X lo hi al ah e : Nat} (hd : d ≤ e) (ht : mj_t S X lo hi al ah d y t) : mj_t S X lo hi al ah e y t := by
  induction hd with
  | refl => exact ht
  | step _ ih => exact mj_t_s _ _ _ ih
theorem mm_t_d {e : Nat} (hd : d ≤ e) (ht : mm_t B mn ma d z t S) : mm_t B mn ma e z t S := mj_t_le hd ht
theorem mm_r_o {k0 n0 : Nat} (ho : of_f (mm_F B k0 n0 mn ma) S S') (hp : p < n0) (hmn : mn ≤ mn') (hma : ma ≤ ma') (hr : mm_r B mn ma d p R S) : mm_r B mn' ma' d p R S' := by
  have e1 : S'.1 167 p = S.1 167 p := ho.1 167 p (by unfold mm_F; omega)
  have e2 : S'.1 168 p = S.1 168 p := ho.1 168 p (by unfold mm_F; omega)
  rcases hr with ⟨h1, h2, h3, h4⟩ | ⟨h1, h2, z, h3, h4⟩
  · exact Or.inl ⟨h1, by rw [e1]; exact h2, by rw [e2]; exact h3, h4⟩
  · exact Or.inr ⟨h1, by rw [e1]; exact h2, z, by rw [e2]; exact h3, mm_t_o ho hmn hma h4⟩
theorem mm_t_g {g g' : Nat} (h1 : mm_go g S S1) (h2 : mm_go g' S1 S2) : mm_go (g + g') S S2 := fun F l1 l4 => by rw [← h2 F l1 l4, ← h1 (F + g') l1 l4, Nat.add_assoc, Nat.add_comm g' g]
theorem mm_pop (hh : mm_h B h pg S0 N s (k + 1) n mn ma ml S) (hk : k < 4000) (hf : fn_Mo_onMaking (S.1 165 k) (S.1 166 k) (wd_i S 135 76 (Int32.ofNat k)) = some S') : mm_go 1 S S' := fun F l1 l4 => by
  have a8 := hh.2.2.2.2.2.2.2.1
  have a9 := hh.2.2.2.2.2.2.2.2.1
  rw [fn_Mo_makeVersion_132, a9, if_pos (show (0 : Int32) < Int32.ofNat (k + 1) from (im_lt (m := 0) (n := k + 1) (by omega) (by omega)).mpr (by omega)), if_pos a8, im_p]
  simp only [wd_b]
  rw [fr_eq, if_neg (ms_in hk (by decide)), if_neg (ms_in hk (by decide)), im_t (show k < 2147483648 by omega), fr_ne (by omega), fr_ne (by omega), hf, wd_d_s]
theorem mm_pop_h (hh : mm_h B h pg S0 N s (k + 1) n mn ma ml S) : mm_h B h pg S0 N s k n mn ma ml (wd_i S 135 76 (Int32.ofNat k)) := by
  obtain ⟨a1, a2, a3, a4, a5, a6, a7, a8, a9, a10, a11, a12, a13⟩ := id hh
  exact mm_hw (k0 := 0) (n0 := 0) (mn0 := 0) (ma0 := 0) hh (of_i (by unfold mm_w; omega) of_refl) (by rw [fr_ne (by omega)]; exact a2) (by rw [fr_ne (by omega)]; exact a3) (by rw [fr_ne (by omega)]; exact a6) fr_eq (by rw [fr_ne (by omega)]; exact a10) a11 a12
theorem mm_step {x : Except mk_E mk_O} (h1 : mm_go 1 S S1) (o1 : of_f (mm_F B k n mn ma) S S1) (h2 : mm_O B h pg S0 r k n mn ma ml (c + 1) x S1) : mm_O B h pg S0 r k n mn ma ml c x S := by
  cases x with
  | error e =>
    cases e with
    | none => trivial
    | some e =>
      obtain ⟨g, S2, k1, k2, k3, k4⟩ := h2
      exact ⟨1 + g, S2, mm_t_g h1 k1, by omega, k3, of_trans o1 k4⟩
  | ok q =>
    obtain ⟨g, S2, k1, k2, ma', k3, k4, k5, k6, k7⟩ := h2
    exact ⟨1 + g, S2, mm_t_g h1 k1, by omega, ma', k3, k4, k5, k6, of_trans o1 k7⟩
theorem mm_bind {x : Except mk_E mk_O} {f : mk_O → Except mk_E mk_O} {r1 k1 n1 mn1 ma1 ml1 c1 : Nat} (e : Nat) (hx : mm_O B h pg S0 r1 k1 n1 mn1 ma1 ml1 c1 x S) (hce : c + e ≤ c1) (hk : k ≤ k1) (hn : n ≤ n1) (hmn : mn ≤ mn1) (hma : ma ≤ ma1) (hf : ∀ q S', x = .ok q → mm_G B h pg S0 r1 k1 n1 mn1 ma1 ml1 q S S' → mm_O B h pg S0 r k n mn ma ml (3 * q.2.2.2.1 - e) (f q) S') : mm_O B h pg S0 r k n mn ma ml c (mk_b x f) S := by
  cases x with
  | error e =>
    cases e with
    | none => trivial
    | some e =>
      obtain ⟨g, S2, l1, l2, l3, l4⟩ := hx
      exact ⟨g, S2, l1, by omega, l3, of_mono (mm_F_le hk hn hmn hma) l4⟩
  | ok q =>
    obtain ⟨g, S2, l1, l2, l3⟩ := hx
    obtain ⟨ma9, -, -, -, -, o9⟩ := id l3
    have o1 := of_mono (mm_F_le hk hn hmn hma) o9
    have := hf q S2 rfl l3
    show mm_O B h pg S0 r k n mn ma ml c (f q) S
    unfold mm_O at this ⊢
    split at this
    · trivial
    · obtain ⟨g', S3, j1, j2, j3, j4⟩ := this
      exact ⟨g + g', S3, mm_t_g l1 j1, by omega, j3, of_trans o1 j4⟩
    · obtain ⟨g', S3, j1, j2, ma', j3, j4, j5, j6, j7⟩ := this
      exact ⟨g + g', S3, mm_t_g l1 j1, by omega, ma', j3, j4, j5, j6, of_trans o1 j7⟩
theorem mm_more {x : Except mk_E mk_O} {r' c' : Nat} (hr : r ≤ r') (hc : c' ≤ c) (hx : mm_O B h pg S0 r k n mn ma ml c x S) : mm_O B h pg S0 r' k n mn ma ml c' x S := by
  cases x with
  | error e =>
    cases e with
    | none => trivial
    | some e =>
      obtain ⟨g, S2, l1, l2, l3, l4⟩ := hx
      exact ⟨g, S2, l1, by omega, l3, l4⟩
  | ok q =>
    obtain ⟨g, S2, k1, k2, ma', k3, k4, k5, k6, k7⟩ := hx
    refine ⟨g, S2, k1, by omega, ma', k3, k4, k5, ?_, k7⟩
    rcases k6 with q | ⟨q1, q2, z, q3, q4⟩
    · exact Or.inl q
    · exact Or.inr ⟨q1, q2, z, q3, mm_t_d hr q4⟩
/-- one more is gone through -/
theorem mm_up (hX : mm_X B h pg S0) (hh : mm_h B h pg S0 N s k n mn ma ml S) (hg : ¬1000 ≤ s.2.1) : mm_h B h pg S0 N (s.1, s.2.1 + 1, s.2.2) k n mn ma ml (wd_i S 135 71 (Int32.ofNat (s.2.1 + 1))) := by
  obtain ⟨a1, a2, a3, a4, a5, a6, a7, a8, a9, a10, a11, a12, a13, a14, a15⟩ := hh
  have e : ∀ b, b ≠ 71 → (wd_i S 135 71 (Int32.ofNat (s.2.1 + 1))).1 135 b = S.1 135 b := fun b hb => fr_ne (by omega)
  have f : ∀ a b, a ≠ 135 → (wd_i S 135 71 (Int32.ofNat (s.2.1 + 1))).1 a b = S.1 a b := fun a b hb => fr_ne (by omega)
  refine ⟨of_trans a1 (of_i (Or.inl ⟨rfl, by omega⟩) of_refl), by rw [e 66 (by decide)]; exact a2, by rw [e 67 (by decide)]; exact a3, by rw [e 68 (by decide)]; exact a4, by rw [e 69 (by decide)]; exact a5, by rw [e 70 (by decide)]; exact a6, fr_eq, by rw [e 73 (by decide)]; exact a8, by rw [e 76 (by decide)]; exact a9, by rw [e 79 (by decide)]; exact a10, a11, a12, by show s.2.1 + 1 ≤ 1000; omega, fun i q hi => ?_, by rw [e 65 (by decide)]; exact a15.1, a15.2.1, fun j hj => ?_⟩
  · obtain ⟨b1, b2, b3, b4⟩ := a14 i q hi
    exact ⟨b1, by rw [f 169 i (by decide)]; exact b2, by rw [f 170 i (by decide)]; exact b3, b4⟩
  · obtain ⟨b1, b2, b3⟩ := a15.2.2 j hj
    exact ⟨by rw [f 159 _ (by decide)]; exact b1, by rw [f 160 _ (by decide)]; exact b2, fun i hi => by rw [f 161 _ (by decide)]; exact b3 i hi⟩
/-- a task more -/
theorem mm_h_p (hh : mm_h B h pg S0 N s k n mn ma ml S) : mm_h B h pg S0 N s (k + 1) n mn ma ml (ml_p k x v S) := by
  obtain ⟨a1, a2, a3, a4, a5, a6, a7, a8, a9, a10, a11, a12, a13⟩ := id hh
  have o := ml_o (k := k) (x := x) (v := v) (S := S)
  exact mm_hw (k0 := 0) (n0 := 0) (mn0 := 0) (ma0 := 0) hh (of_mono (fun a b z => by unfold mm_w; omega) o) (by rw [o.1 135 66 (by omega)]; exact a2) (by rw [o.1 135 67 (by omega)]; exact a3) (by rw [o.1 135 70 (by omega)]; exact a6) ml_76 (by rw [o.1 135 79 (by omega)]; exact a10) a11 a12
/-- a result more -/
theorem mm_h_g (hh : mm_h B h pg S0 N s k n mn ma ml S) : mm_h B h pg S0 N s k (n + 1) mn ma ml (mg_p n x v S) := by
  obtain ⟨a1, a2, a3, a4, a5, a6, a7, a8, a9, a10, a11, a12, a13⟩ := id hh
  have o := mg_o (n := n) (x := x) (v := v) (S := S)
  exact mm_hw (k0 := 0) (n0 := 0) (mn0 := 0) (ma0 := 0) hh (of_mono (fun a b z => by unfold mm_w; omega) o) (by rw [o.1 135 66 (by omega)]; exact a2) (by rw [o.1 135 67 (by omega)]; exact a3) (by rw [o.1 135 70 (by omega)]; exact a6) (by rw [o.1 135 76 (by omega)]; exact a9) mg_79 a11 a12
theorem mm_h_79 (hh : mm_h B h pg S0 N s k n mn ma ml S) : mm_h B h pg S0 N s k n' mn ma ml (wd_i S 135 79 (Int32.ofNat n')) := by
  obtain ⟨a1, a2, a3, a4, a5, a6, a7, a8, a9, a10, a11, a12, a13⟩ := id hh
  exact mm_hw (k0 := 0) (n0 := 0) (mn0 := 0) (ma0 := 0) hh (of_i (by unfold mm_w; omega) of_refl) (by rw [fr_ne (by omega)]; exact a2) (by rw [fr_ne (by omega)]; exact a3) (by rw [fr_ne (by omega)]; exact a6) (by rw [fr_ne (by omega)]; exact a9) fr_eq a11 a12
/-- a node of a result -/
theorem mm_node (hX : mm_X B h pg S0) (hh : mm_h B h pg S0 N s k n mn ma ml S) (hp : p < 4000) (hr : mm_r B mn ma d p R S) (hd : 1 ≤ d) (hmn : mn + 1 ≤ 1000) : ∃ z S', fn_Mo_nodeOf (Int32.ofNat p) S = some (Int32.ofNat z, S') ∧ mm_h B h pg S0 N s k n (mn + if tr_k R.1 = 1 then 1 else 0) ma ml S' ∧ mm_t B (mn + if tr_k R.1 = 1 then 1 else 0) ma d z R.1 S' ∧ of_f (fun a b => (a = 135 ∧ b = 66) ∨ (143 ≤ a ∧ a ≤ 146 ∧ b = 3004 + 6002 * B + mn)) S S' := by
  have hB := hX.1
  obtain ⟨d, rfl⟩ : ∃ e, d = e + 1 := ⟨d - 1, by omega⟩
  unfold fn_Mo_nodeOf
  simp only [wd_b]
  rw [im_t (show p < 2147483648 by omega)]
  simp only [if_neg (ms_iy hp (show 4000 < 2147483648 by decide))]
  rcases hr with ⟨h1, h2, h3, h4⟩ | ⟨h1, h2, z, h3, h4⟩
  · obtain ⟨a1, a2, a3, a4, a5, a6, a7, a8, a9, a10, a11, a12, a13⟩ := id hh
    rw [h2, if_neg (show ¬(1 : Int32) = 0 by decide), mm_fresh hB (mm_64 hX a1) a2 (by omega), wd_c_s, if_neg (ms_in (show 3004 + 6002 * B + mn < 15010 by omega) (by decide)), im_t (show 3004 + 6002 * B + mn < 2147483648 by omega), fr_ne (by omega), fr_ne (by omega), h3, if_pos h1]
    generalize hS1 : wd_i (wd_i (wd_i S 135 66 (Int32.ofNat (mn + 1))) 143 (3004 + 6002 * B + mn) 5) 144 (3004 + 6002 * B + mn) (tr_v R.1) = S1
    have o : of_f (fun a b => (a = 135 ∧ b = 66) ∨ (143 ≤ a ∧ a ≤ 146 ∧ b = 3004 + 6002 * B + mn)) S S1 := by
      rw [← hS1]
      exact of_i (by omega) (of_i (by omega) (of_i (by omega) of_refl))
    refine ⟨3004 + 6002 * B + mn, S1, rfl, mm_hw (k0 := 0) (n0 := 0) (mn0 := 0) (ma0 := 0) hh (of_mono (fun a b z => by unfold mm_w; omega) o) (by rw [← hS1, fr_ne (by omega), fr_ne (by omega), fr_eq]) (by rw [o.1 135 67 (by omega)]; exact a3) (by rw [o.1 135 70 (by omega)]; exact a6) (by rw [o.1 135 76 (by omega)]; exact a9) (by rw [o.1 135 79 (by omega)]; exact a10) (by omega) a12, ⟨by omega, by omega, Or.inl ⟨h1, h4, by rw [← hS1, fr_ne (by omega), fr_eq], by rw [← hS1, fr_eq]⟩⟩, o⟩
  · rw [h2, if_pos rfl, h3]
    refine ⟨z, S, rfl, ?_, ?_, of_refl⟩
    · rw [if_neg h1]; exact hh
    · rw [if_neg h1]; exact h4
end Mm2
