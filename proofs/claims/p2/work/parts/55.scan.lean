/-! What a run may write; rows at small places. -/
section Of
variable {W W' : Nat → Nat → Prop} {S S1 S2 : wd_S} {a k r m : Nat} {i v : Int32} {w : Int64}
def of_f (W : Nat → Nat → Prop) (S S' : wd_S) : Prop := (∀ a k, ¬W a k → S'.1 a k = S.1 a k) ∧ (∀ a k, ¬W a k → S'.2.1 a k = S.2.1 a k) ∧ S'.2.2 = S.2.2
theorem of_refl : of_f W S S := ⟨fun _ _ _ => rfl, fun _ _ _ => rfl, rfl⟩
theorem of_trans (h1 : of_f W S S1) (h2 : of_f W S1 S2) : of_f W S S2 := ⟨fun a k h => (h2.1 a k h).trans (h1.1 a k h), fun a k h => (h2.2.1 a k h).trans (h1.2.1 a k h), h2.2.2.trans h1.2.2⟩
theorem of_mono (hw : ∀ a k, W a k → W' a k) (h : of_f W S S1) : of_f W' S S1 := ⟨fun a k q => h.1 a k (fun z => q (hw a k z)), fun a k q => h.2.1 a k (fun z => q (hw a k z)), h.2.2⟩
theorem of_i (hw : W a k) (h : of_f W S S1) : of_f W S (wd_i S1 a k v) := by
  refine ⟨fun b m q => ?_, fun b m q => h.2.1 b m q, h.2.2⟩
  rw [fr_i1, if_neg (fun z => q (by rw [z.1, z.2]; exact hw))]
  exact h.1 b m q
theorem of_l (hw : W a k) (h : of_f W S S1) : of_f W S (wd_l S1 a k w) := by
  refine ⟨fun b m q => h.1 b m q, fun b m q => ?_, h.2.2⟩
  rw [fr_l1, if_neg (fun z => q (by rw [z.1, z.2]; exact hw))]
  exact h.2.1 b m q
theorem of_put (hw : ∀ k, W (r + 1) k) (h : of_f W S S1) : of_f W S (ro_put r i v S1) := by
  unfold ro_put
  split
  · exact h
  · exact of_i (hw _) h
theorem of_lput (hw : ∀ k, W (r + 1) k) (h : of_f W S S1) : of_f W S (lo_put r i w S1) := by
  unfold lo_put
  split
  · exact h
  · exact of_l (hw _) h
theorem ro_nn {L : Nat} (hL : (tp_t (r + 1)).2 = L) (hm : m < L) : ¬(Int32.ofNat m < 0 ∨ (tp_t (r + 1)).2 ≤ (Int32.ofNat m).toNatClampNeg) := by
  have h2 := tp_sm (r + 1)
  rw [im_t (by omega)]
  rintro (h | h)
  · exact im_neg (by omega) h
  · omega
theorem ro_pn {L : Nat} (hL : (tp_t (r + 1)).2 = L) (hm : m < L) : ro_put r (Int32.ofNat m) v S = wd_i S (r + 1) m v := by
  have h2 := tp_sm (r + 1)
  unfold ro_put
  rw [if_neg (ro_nn hL hm), im_t (by omega)]
theorem ro_an {L : Nat} (hL : (tp_t (r + 1)).2 = L) (hm : m < L) : ro_at r (Int32.ofNat m) S = S.1 (r + 1) m := by
  have h2 := tp_sm (r + 1)
  unfold ro_at
  rw [if_neg (ro_nn hL hm), im_t (by omega)]
theorem lo_pn {L : Nat} (hL : (tp_t (r + 1)).2 = L) (hm : m < L) : lo_put r (Int32.ofNat m) w S = wd_l S (r + 1) m w := by
  have h2 := tp_sm (r + 1)
  unfold lo_put
  rw [if_neg (ro_nn hL hm), im_t (by omega)]
theorem lo_an {L : Nat} (hL : (tp_t (r + 1)).2 = L) (hm : m < L) : lo_at r (Int32.ofNat m) S = S.2.1 (r + 1) m := by
  have h2 := tp_sm (r + 1)
  unfold lo_at
  rw [if_neg (ro_nn hL hm), im_t (by omega)]
end Of
/-! Tokens: where they begin, what they are. -/
def tk_rl (T : Nat → Int32) : Nat → Nat → Nat
  | 0, _ => 0
  | f + 1, a => if (T a < 48 ∨ 57 < T a) ∧ (T a < 97 ∨ 122 < T a) then 0 else tk_rl T f (a + 1) + 1
theorem tk_rl_le (T : Nat → Int32) : ∀ f a, tk_rl T f a ≤ f := by
  intro f
  induction f with
  | zero => intro a; exact Nat.le_refl _
  | succ f ih =>
    intro a
    unfold tk_rl
    split
    · exact Nat.zero_le _
    · have := ih (a + 1); omega
theorem tk_row (T : Nat → Int32) (n : Nat) : ∀ f a, a + f = n → lx_row T n a (tk_rl T f a) := by
  intro f
  induction f with
  | zero =>
    intro a h
    exact ⟨fun j hj => absurd hj (Nat.not_lt_zero _), Or.inl h⟩
  | succ f ih =>
    intro a h
    unfold tk_rl
    by_cases hc : (T a < 48 ∨ 57 < T a) ∧ (T a < 97 ∨ 122 < T a)
    · rw [if_pos hc]
      exact ⟨fun j hj => absurd hj (Nat.not_lt_zero _), Or.inr ⟨by omega, hc⟩⟩
    · rw [if_neg hc]
      obtain ⟨h1, h2⟩ := ih (a + 1) (by omega)
      refine ⟨fun j hj => ?_, ?_⟩
      · cases j with
        | zero => exact ⟨by omega, hc⟩
        | succ j =>
          have := h1 j (by omega)
          rw [show a + (j + 1) = a + 1 + j by omega]
          exact this
      · rw [show a + (tk_rl T f (a + 1) + 1) = a + 1 + tk_rl T f (a + 1) by omega]
        exact h2
def tk_sk (T : Nat → Int32) : Nat → Nat → Nat
  | 0, a => a
  | f + 1, a => if T a = 32 ∨ T a = 10 then tk_sk T f (a + 1) else a
theorem tk_sk_le (T : Nat → Int32) : ∀ f a, a ≤ tk_sk T f a ∧ tk_sk T f a ≤ a + f ∧ (tk_sk T f a < a + f → ¬(T (tk_sk T f a) = 32 ∨ T (tk_sk T f a) = 10)) := by
  intro f
  induction f with
  | zero => intro a; exact ⟨Nat.le_refl _, Nat.le_refl _, fun h => absurd h (Nat.lt_irrefl _)⟩
  | succ f ih =>
    intro a
    unfold tk_sk
    by_cases h : T a = 32 ∨ T a = 10
    · rw [if_pos h]
      obtain ⟨h1, h2, h3⟩ := ih (a + 1)
      exact ⟨by omega, by omega, fun q => h3 (by omega)⟩
    · rw [if_neg h]
      exact ⟨Nat.le_refl _, by omega, fun _ => h⟩
def tk_n (T : Nat → Int32) (n p : Nat) : Nat := tk_sk T (n - p) p
theorem tk_n_b {T : Nat → Int32} {n p : Nat} (hp : p < n) (h : T p = 32 ∨ T p = 10) : tk_n T n p = tk_n T n (p + 1) := by
  unfold tk_n
  rw [show n - p = (n - (p + 1)) + 1 by omega]
  exact if_pos h
theorem tk_n_t {T : Nat → Int32} {n p : Nat} (hp : p < n) (h : ¬(T p = 32 ∨ T p = 10)) : tk_n T n p = p := by
  unfold tk_n
  rw [show n - p = (n - (p + 1)) + 1 by omega]
  exact if_neg h
theorem tk_n_e {T : Nat → Int32} {n : Nat} : tk_n T n n = n := by
  unfold tk_n
  rw [Nat.sub_self]
  rfl
theorem tk_n_le {T : Nat → Int32} {n p : Nat} (hp : p ≤ n) : tk_n T n p ≤ n := by
  have := (tk_sk_le T (n - p) p).2.1
  unfold tk_n
  omega
theorem tk_n_nb {T : Nat → Int32} {n p : Nat} (hp : p ≤ n) (h : tk_n T n p < n) : ¬(T (tk_n T n p) = 32 ∨ T (tk_n T n p) = 10) := by
  have := (tk_sk_le T (n - p) p).2.2
  exact this (by unfold tk_n at h; omega)
def tk_sg (c : Int32) : Int32 := if c = 40 then 15 else if c = 41 then 16 else if c = 42 then 8 else if c = 43 then 6 else if c = 44 then 17 else if c = 45 then 7 else if c = 59 then 18 else if c = 60 then 9 else if c = 61 then 14 else 19
def tk_k (T : Nat → Int32) (n p : Nat) : Int32 := if (T p < 48 ∨ 57 < T p) ∧ (T p < 97 ∨ 122 < T p) then (if T p = 61 ∧ p + 1 < n ∧ T (p + 1) = 61 then 10 else tk_sg (T p)) else lx_k T p (tk_rl T (n - p) p)
def tk_v (T : Nat → Int32) (n p : Nat) : Int64 := if (T p < 48 ∨ 57 < T p) ∧ (T p < 97 ∨ 122 < T p) then 0 else lx_v T p (tk_rl T (n - p) p)
def tk_z (T : Nat → Int32) (n p : Nat) : Nat := if (T p < 48 ∨ 57 < T p) ∧ (T p < 97 ∨ 122 < T p) then (if T p = 61 ∧ p + 1 < n ∧ T (p + 1) = 61 then 2 else 1) else tk_rl T (n - p) p
theorem tk_z_ok {T : Nat → Int32} {n p : Nat} (hp : p < n) : 1 ≤ tk_z T n p ∧ p + tk_z T n p ≤ n := by
  unfold tk_z
  by_cases h : (T p < 48 ∨ 57 < T p) ∧ (T p < 97 ∨ 122 < T p)
  · rw [if_pos h]
    by_cases h2 : T p = 61 ∧ p + 1 < n ∧ T (p + 1) = 61
    · rw [if_pos h2]; omega
    · rw [if_neg h2]; omega
  · rw [if_neg h]
    have h3 := tk_rl_le T (n - p) p
    refine ⟨?_, by omega⟩
    rw [show n - p = (n - (p + 1)) + 1 by omega]
    unfold tk_rl
    rw [if_neg h]
    omega
def tk_p (T : Nat → Int32) (n : Nat) : Nat → Nat
  | 0 => tk_n T n 0
  | i + 1 => if tk_p T n i < n then tk_n T n (tk_p T n i + tk_z T n (tk_p T n i)) else n
def tk_K (T : Nat → Int32) (n i : Nat) : Int32 := if tk_p T n i < n then tk_k T n (tk_p T n i) else 20
def tk_V (T : Nat → Int32) (n i : Nat) : Int64 := tk_v T n (tk_p T n i)
theorem tk_p_le (T : Nat → Int32) (n : Nat) : ∀ i, tk_p T n i ≤ n := by
  intro i
  cases i with
  | zero => exact tk_n_le (Nat.zero_le _)
  | succ i =>
    unfold tk_p
    split
    · next h => exact tk_n_le (tk_z_ok h).2
    · exact Nat.le_refl _
theorem tk_p_s {T : Nat → Int32} {n i : Nat} (h : tk_p T n i < n) : tk_p T n (i + 1) = tk_n T n (tk_p T n i + tk_z T n (tk_p T n i)) := if_pos h
theorem tk_p_e {T : Nat → Int32} {n i : Nat} (h : tk_p T n i = n) : ∀ j, tk_p T n (i + j) = n := by
  intro j
  induction j with
  | zero => exact h
  | succ j ih =>
    have h2 : ¬tk_p T n (i + j) < n := by rw [ih]; exact Nat.lt_irrefl _
    exact if_neg h2
theorem tk_sign (c : Int32) (S : wd_S) : fn_Tokens_signKind c S = some (tk_sg c, S) := by
  unfold fn_Tokens_signKind
  by_cases h40 : c = 40
  · subst h40; rfl
  rw [if_neg h40]
  by_cases h41 : c = 41
  · subst h41; rfl
  rw [if_neg h41]
  by_cases h42 : c = 42
  · subst h42; rfl
  rw [if_neg h42]
  by_cases h43 : c = 43
  · subst h43; rfl
  rw [if_neg h43]
  by_cases h44 : c = 44
  · subst h44; rfl
  rw [if_neg h44]
  by_cases h45 : c = 45
  · subst h45; rfl
  rw [if_neg h45]
  by_cases h46 : c = 46
  · subst h46; rfl
  rw [if_neg h46]
  by_cases h47 : c = 47
  · subst h47; rfl
  rw [if_neg h47]
  by_cases h48 : c = 48
  · subst h48; rfl
  rw [if_neg h48]
  by_cases h49 : c = 49
  · subst h49; rfl
  rw [if_neg h49]
  by_cases h50 : c = 50
  · subst h50; rfl
  rw [if_neg h50]
  by_cases h51 : c = 51
  · subst h51; rfl
  rw [if_neg h51]
  by_cases h52 : c = 52
  · subst h52; rfl
  rw [if_neg h52]
  by_cases h53 : c = 53
  · subst h53; rfl
  rw [if_neg h53]
  by_cases h54 : c = 54
  · subst h54; rfl
  rw [if_neg h54]
  by_cases h55 : c = 55
  · subst h55; rfl
  rw [if_neg h55]
  by_cases h56 : c = 56
  · subst h56; rfl
  rw [if_neg h56]
  by_cases h57 : c = 57
  · subst h57; rfl
  rw [if_neg h57]
  by_cases h58 : c = 58
  · subst h58; rfl
  rw [if_neg h58]
  by_cases h59 : c = 59
  · subst h59; rfl
  rw [if_neg h59]
  by_cases h60 : c = 60
  · subst h60; rfl
  rw [if_neg h60]
  by_cases h61 : c = 61
  · subst h61; rfl
  rw [if_neg h61]
  unfold tk_sg
  rw [if_neg h40, if_neg h41, if_neg h42, if_neg h43, if_neg h44, if_neg h45, if_neg h59, if_neg h60, if_neg h61]
theorem sc_one {n p : Nat} {S : wd_S} (hn : S.1 4 4 = Int32.ofNat n) (hp : p < n) (h8 : n ≤ 8000) : fn_Tokens_scanOne (Int32.ofNat p) S = if S.1 3 p = 32 ∨ S.1 3 p = 10 then some (1, S) else some (Int32.ofNat (tk_z (S.1 3) n p), fo_kp (tk_k (S.1 3) n p) (tk_v (S.1 3) n p) S) := by
  have h37 : ¬((S.1 3 p < 48 ∨ 57 < S.1 3 p) ∧ (S.1 3 p < 97 ∨ 122 < S.1 3 p)) → fn_Tokens_scanOne_37 (Int32.ofNat p) S = some (Int32.ofNat (tk_z (S.1 3) n p), fo_kp (tk_k (S.1 3) n p) (tk_v (S.1 3) n p) S) := by
    intro hc
    have hr := tk_row (S.1 3) n (n - p) p (by omega)
    have hl := tk_rl_le (S.1 3) (n - p) p
    have e := lx_cl hn h8 hr _ 0 wd_F (Nat.zero_add _) (by rw [show wd_F = 1000000 from rfl]; omega)
    have e2 := lx_111 (a := p) (k := tk_rl (S.1 3) (n - p) p) (S := S) (by omega) (by omega)
    have e3 : fn_Tokens_scanRow (Int32.ofNat p) S = some (Int32.ofNat (tk_rl (S.1 3) (n - p) p), fo_kp (lx_k (S.1 3) p (tk_rl (S.1 3) (n - p) p)) (lx_v (S.1 3) p (tk_rl (S.1 3) (n - p) p)) S) := e.trans e2
    unfold fn_Tokens_scanOne_37 tk_z tk_k tk_v
    rw [e3, wd_c_s, if_neg hc, if_neg hc, if_neg hc]
  have h83 : (S.1 3 p < 48 ∨ 57 < S.1 3 p) ∧ (S.1 3 p < 97 ∨ 122 < S.1 3 p) → ¬(S.1 3 p = 61 ∧ p + 1 < n ∧ S.1 3 (p + 1) = 61) → fn_Tokens_scanOne_83 (S.1 3 p) S = some (Int32.ofNat (tk_z (S.1 3) n p), fo_kp (tk_k (S.1 3) n p) (tk_v (S.1 3) n p) S) := by
    intro hc h2
    unfold fn_Tokens_scanOne_83 tk_z tk_k tk_v
    rw [tk_sign, wd_c_s, fo_keep, wd_c_s, if_pos hc, if_pos hc, if_pos hc, if_neg h2, if_neg h2]
    rfl
  unfold fn_Tokens_scanOne
  rw [ro_at_ok, wd_c_s, lx_at (by omega)]
  by_cases h1 : S.1 3 p = 32
  · rw [if_pos h1, if_pos (Or.inl h1)]; rfl
  · rw [if_neg h1]
    by_cases h2 : S.1 3 p = 10
    · rw [if_pos h2, if_pos (Or.inr h2)]; rfl
    · rw [if_neg h2, if_neg (show ¬(S.1 3 p = 32 ∨ S.1 3 p = 10) by rintro (q | q); exact h1 q; exact h2 q), fo_isLetter, wd_c_s]
      by_cases hl : S.1 3 p < 97 ∨ 122 < S.1 3 p
      · rw [if_pos hl, if_pos rfl, fo_isDigit, wd_c_s]
        by_cases hd : S.1 3 p < 48 ∨ 57 < S.1 3 p
        · rw [if_pos hd, if_pos rfl]
          by_cases h6 : S.1 3 p = 61
          · rw [if_pos h6, hn, im_s]
            by_cases h7 : p + 1 < n
            · rw [if_pos ((im_lt (by omega) (by omega)).mpr h7), ro_at_ok, wd_c_s, lx_at (by omega)]
              by_cases h9 : S.1 3 (p + 1) = 61
              · rw [if_pos h9, fo_keep, wd_c_s]
                have hrow : (S.1 3 p < 48 ∨ 57 < S.1 3 p) ∧ (S.1 3 p < 97 ∨ 122 < S.1 3 p) := ⟨hd, hl⟩
                have h679 : S.1 3 p = 61 ∧ p + 1 < n ∧ S.1 3 (p + 1) = 61 := ⟨h6, h7, h9⟩
                unfold tk_z tk_k tk_v
                rw [if_pos hrow, if_pos hrow, if_pos hrow, if_pos h679, if_pos h679]
                rfl
              · rw [if_neg h9]
                exact h83 ⟨hd, hl⟩ (fun q => h9 q.2.2)
            · rw [if_neg (fun q => h7 ((im_lt (by omega) (by omega)).mp q))]
              exact h83 ⟨hd, hl⟩ (fun q => h7 q.2.1)
          · rw [if_neg h6]
            exact h83 ⟨hd, hl⟩ (fun q => h6 q.1)
        · rw [if_neg hd, if_neg (by decide)]
          exact h37 (fun q => hd q.1)
      · rw [if_neg hl, if_neg (by decide)]
        exact h37 (fun q => hl q.2)
