/-! What becomes of a text: rests, versions; what is gone through, tried. -/
abbrev mk_V : Type := Nat × Nat × (Nat → Int32)
abbrev mk_N : Type := Nat → Option (Bool × Int32)
abbrev mk_R : Type := tr_T × Nat × Nat
abbrev mk_S : Type := List mk_V × Nat × Nat × Nat
abbrev mk_O : Type := mk_R × mk_N × mk_S
abbrev mk_E : Type := Option Unit
abbrev mk_P : Type := mk_N → mk_S → tr_T → Except mk_E mk_O
def mk_b {α β : Type} (x : Except mk_E α) (f : α → Except mk_E β) : Except mk_E β := match x with
  | .ok a => f a
  | .error e => .error e
def mk_u (N : mk_N) (s : Nat) (q : Bool × Int32) : mk_N := fun i => if i = s then some q else N i
def mk_n (v : Int32) : mk_R := (tr_l 1 v 0, 1, 0)
def mk_bt (m i : Nat) : Bool := decide (m / 2 ^ i % 2 = 1)
def mk_is (f m : Nat) (kn : Nat → Int32) (v : mk_V) : Bool := decide (v.1 = f) && (decide (v.2.1 = m) && (List.range 4).all (fun i => !(mk_bt m i) || decide (v.2.2 i = kn i)))
theorem mk_is_iff {f m : Nat} {kn : Nat → Int32} {v : mk_V} : mk_is f m kn v = true ↔ (v.1 = f ∧ v.2.1 = m ∧ ∀ i, i < 4 → mk_bt m i = true → v.2.2 i = kn i) := by
  unfold mk_is
  rw [Bool.and_eq_true, Bool.and_eq_true, decide_eq_true_iff, decide_eq_true_iff, List.all_eq_true]
  refine ⟨fun h => ⟨h.1, h.2.1, fun i hi hb => ?_⟩, fun h => ⟨h.1, h.2.1, fun i hi => ?_⟩⟩
  · have := h.2.2 i (List.mem_range.mpr hi)
    rw [hb, Bool.not_true, Bool.false_or, decide_eq_true_iff] at this
    exact this
  · cases hb : mk_bt m i with
    | false => rfl
    | true =>
      rw [Bool.not_true, Bool.false_or, decide_eq_true_iff]
      exact h.2.2 i (List.mem_range.mp hi) hb
theorem mk_is_no {f m : Nat} {kn : Nat → Int32} {v : mk_V} (h : ¬(v.1 = f ∧ v.2.1 = m ∧ ∀ i, i < 4 → mk_bt m i = true → v.2.2 i = kn i)) : mk_is f m kn v = false := Bool.eq_false_iff.mpr (fun q => h (mk_is_iff.mp q))
/-- the first version that is wanted -/
def mk_fd (f m : Nat) (kn : Nat → Int32) : List mk_V → Nat → Option Nat
  | [], _ => none
  | v :: r, k => if mk_is f m kn v = true then some k else mk_fd f m kn r (k + 1)
/-- the mask of the first n -/
def mk_mk (nb : Nat → Bool) : Nat → Nat
  | 0 => 0
  | n + 1 => mk_mk nb n + if nb n = true then 2 ^ n else 0
def mk_at (as : List mk_R) (i : Nat) : mk_R := as.getD i (mk_n 0)
def mk_nb (as : List mk_R) (i : Nat) : Bool := decide (tr_k (mk_at as i).1 = 1)
def mk_ma (as : List mk_R) : Nat := mk_mk (mk_nb as) as.length
def mk_kn (as : List mk_R) (i : Nat) : Int32 := tr_v (mk_at as i).1
def mk_new (f m : Nat) (kn : Nat → Int32) : mk_V := (f, m, fun i => if mk_bt m i = true then kn i else 0)
def mk_kp (as : List mk_R) : List mk_R := as.filter (fun a => decide (¬tr_k a.1 = 1))
/-- of a call: its version, the arguments that stay, the versions then -/
def mk_ld (f m : Nat) (kn : Nat → Int32) (as : List mk_R) (vs : List mk_V) : Nat × List mk_R × List mk_V := match mk_fd f m kn vs 0 with
  | some k => (k, mk_kp as, vs)
  | none => if vs.length < 30 then (vs.length, mk_kp as, vs ++ [mk_new f m kn]) else match mk_fd f 0 kn vs 0 with
    | some k => (k, as, vs)
    | none => (vs.length, as, vs ++ [mk_new f 0 kn])
def mk_sz : List mk_R → Nat
  | [] => 0
  | a :: r => a.2.1 + mk_sz r
def mk_lt : List mk_R → Nat
  | [] => 0
  | a :: r => a.2.2 + mk_lt r
def mk_cl (k : Nat) (as : List mk_R) : mk_R := (tr_mk 5 (Int32.ofNat k) 0 as.length (tr_ls (as.map (fun a => a.1))), 1 + mk_sz as, mk_lt as)
def mk_go (f : Nat) (as : List mk_R) (s : mk_S) : mk_R × mk_S := (mk_cl (mk_ld f (mk_ma as) (mk_kn as) as s.1).1 (mk_ld f (mk_ma as) (mk_kn as) as s.1).2.1, (mk_ld f (mk_ma as) (mk_kn as) as s.1).2.2, s.2)
def mk_call (P : List tr_T) (f : Nat) (as : List mk_R) (s : mk_S) : Except mk_E (mk_R × mk_S) := if mk_ma as = 2 ^ as.length - 1 then (match ev P 500 160 (ev_l (as.map (fun a => tr_v a.1))) 0 0 (P.getD f tr_z) with
    | .ok q => .ok (mk_n q.1, s.1, s.2.1, s.2.2.1 + 1, s.2.2.2 + 1)
    | .error none => .error none
    | .error (some _) => .ok (mk_go f as (s.1, s.2.1, s.2.2.1 + 1, s.2.2.2))) else .ok (mk_go f as s)
def mk_args (self : mk_P) (t : tr_T) : Nat → Nat → mk_N → mk_S → Except mk_E (List mk_R × mk_N × mk_S)
  | 0, _, N, s => .ok ([], N, s)
  | r + 1, j, N, s => mk_b (self N s (tr_sub t j)) fun q => mk_b (mk_args self t r (j + 1) q.2.1 q.2.2) fun w => .ok (q.1 :: w.1, w.2)
def pg_P (pg : pg_T) : List tr_T := pg.map (fun q => q.2.1)
def pg_n (pg : pg_T) (f : Nat) : Nat := (pg.getD f (0, tr_z, 0, 0)).1
def mk_name (q : Bool × Int32) : mk_R := if q.1 = true then mk_n q.2 else (tr_l 2 q.2 0, 1, 0)
def mk_let (self : mk_P) : mk_P := fun N s t => mk_b (self N s (tr_sub t 0)) fun q => if tr_k q.1.1 = 1 then self (mk_u q.2.1 (tr_n t) (true, tr_v q.1.1)) q.2.2 (tr_sub t 1) else mk_b (self (mk_u q.2.1 (tr_n t) (false, tr_v t)) q.2.2 (tr_sub t 1)) fun w => .ok ((tr_2 3 (tr_v t) 0 q.1.1 w.1.1, 1 + q.1.2.1 + w.1.2.1, 1 + q.1.2.2 + w.1.2.2), w.2)
def mk_if (self : mk_P) : mk_P := fun N s t => mk_b (self N s (tr_sub t 0)) fun q => if tr_k q.1.1 = 1 then self q.2.1 q.2.2 (tr_sub t (if tr_v q.1.1 = 0 then 2 else 1)) else mk_b (self q.2.1 q.2.2 (tr_sub t 1)) fun w => mk_b (self w.2.1 w.2.2 (tr_sub t 2)) fun u => .ok ((tr_3 4 0 0 q.1.1 w.1.1 u.1.1, 1 + q.1.2.1 + w.1.2.1 + u.1.2.1, q.1.2.2 + w.1.2.2 + u.1.2.2), u.2)
def mk_ca (pg : pg_T) (self : mk_P) : mk_P := fun N s t => mk_b (mk_args self t (tr_a t) 0 N s) fun q => mk_b (mk_call (pg_P pg) (tr_n t) q.1 q.2.2) fun w => .ok (w.1, q.2.1, w.2)
def mk_sg (self : mk_P) : mk_P := fun N s t => mk_b (self N s (tr_sub t 0)) fun q => mk_b (self q.2.1 q.2.2 (tr_sub t 1)) fun w => if tr_k q.1.1 = 1 ∧ tr_k w.1.1 = 1 then .ok (mk_n (ev_sg (tr_k t) (tr_v q.1.1) (tr_v w.1.1)), w.2) else .ok ((tr_2 (tr_k t) 0 0 q.1.1 w.1.1, 1 + q.1.2.1 + w.1.2.1, q.1.2.2 + w.1.2.2), w.2)
def mk_in (pg : pg_T) (self : mk_P) : mk_P := fun N s t => if ev_ok pg.length t then (if tr_k t = 1 then .ok (mk_n (tr_v t), N, s) else if tr_k t = 2 then (match N (tr_n t) with
    | some q => .ok (mk_name q, N, s)
    | none => .error none) else if tr_k t = 3 then mk_let self N s t else if tr_k t = 4 then mk_if self N s t else if tr_k t = 5 then (if tr_a t = pg_n pg (tr_n t) then mk_ca pg self N s t else .error none) else mk_sg self N s t) else .error none
/-- what becomes of an EXPRESSION with room for r below -/
def mk (pg : pg_T) : Nat → mk_P
  | 0 => fun _ _ _ => .error none
  | r + 1 => fun N s t => if 1000 ≤ s.2.1 then .error (some ()) else mk_in pg (mk pg r) N (s.1, s.2.1 + 1, s.2.2) t
/-- how many of the first n are left -/
def mk_lf (m : Nat) : Nat → Nat
  | 0 => 0
  | i + 1 => mk_lf m i + if mk_bt m i = true then 0 else 1
def mk_e (pn : Nat) (v : mk_V) : mk_N := fun i => if i < pn then some (if mk_bt v.2.1 i = true then (true, v.2.2 i) else (false, Int32.ofNat (mk_lf v.2.1 i))) else none
def mk_lp (pg : pg_T) : Nat → Nat → pg_T → mk_S → Except mk_E (pg_T × mk_S)
  | 0, _, _, _ => .error none
  | F + 1, k, ds, s => match s.1[k]? with
    | none => .ok (ds, s)
    | some v => mk_b (mk pg 96 (mk_e (pg_n pg v.1) v) s ((pg_P pg).getD v.1 tr_z)) fun q => mk_lp pg F (k + 1) (ds ++ [(mk_lf v.2.1 (pg_n pg v.1), q.1.1, q.1.2.1, q.1.2.2)]) q.2.2
def mk_all (pg : pg_T) (f m : Nat) (kn : Nat → Int32) : Except mk_E (pg_T × mk_S) := mk_lp pg 79 0 [] ([mk_new f m kn], 0, 0, 0)
theorem mk_b_ok {α β : Type} {x : Except mk_E α} {f : α → Except mk_E β} {b : β} (h : mk_b x f = .ok b) : ∃ a, x = .ok a ∧ f a = .ok b := by
  cases x with
  | error e => cases h
  | ok a => exact ⟨a, rfl, h⟩
/-! Masks. -/
theorem mk_mk_lt (nb : Nat → Bool) : ∀ n, mk_mk nb n < 2 ^ n := by
  intro n
  induction n with
  | zero => exact Nat.one_pos
  | succ n ih =>
    show mk_mk nb n + (if nb n = true then 2 ^ n else 0) < 2 ^ (n + 1)
    rw [Nat.pow_succ]
    split <;> omega
theorem mk_bt_lt {m i n : Nat} (hm : m < 2 ^ n) (hi : n ≤ i) : mk_bt m i = false := by
  have : m / 2 ^ i = 0 := Nat.div_eq_of_lt (Nat.lt_of_lt_of_le hm (Nat.pow_le_pow_right (by decide) hi))
  unfold mk_bt
  rw [this]
  rfl
theorem mk_bt_a {m n : Nat} (hm : m < 2 ^ n) : ∀ i, i < n → mk_bt (m + 2 ^ n) i = mk_bt m i := by
  intro i hi
  unfold mk_bt
  have e : 2 ^ n = 2 ^ i * (2 * 2 ^ (n - i - 1)) := by
    rw [← Nat.mul_assoc, Nat.mul_comm (2 ^ i) 2, ← Nat.pow_succ', ← Nat.pow_add]
    congr 1
    omega
  rw [e, Nat.add_mul_div_left _ _ (Nat.two_pow_pos i), Nat.add_mul_mod_self_left]
theorem mk_bt_n {m n : Nat} (hm : m < 2 ^ n) : mk_bt (m + 2 ^ n) n = true := by
  unfold mk_bt
  rw [Nat.add_div_right _ (Nat.two_pow_pos n), Nat.div_eq_of_lt hm]
  rfl
theorem mk_mk_bt (nb : Nat → Bool) : ∀ n i, mk_bt (mk_mk nb n) i = (decide (i < n) && nb i) := by
  intro n
  induction n with
  | zero => intro i; show mk_bt 0 i = _; unfold mk_bt; rw [Nat.zero_div]; simp
  | succ n ih =>
    intro i
    have hl := mk_mk_lt nb n
    show mk_bt (mk_mk nb n + (if nb n = true then 2 ^ n else 0)) i = _
    rcases Nat.lt_trichotomy i n with h | h | h
    · have e : mk_bt (mk_mk nb n + (if nb n = true then 2 ^ n else 0)) i = mk_bt (mk_mk nb n) i := by
        split
        · exact mk_bt_a hl i h
        · rfl
      rw [e, ih, decide_eq_true h, decide_eq_true (show i < n + 1 by omega)]
    · subst h
      rw [decide_eq_true (Nat.lt_succ_self i), Bool.true_and]
      cases hb : nb i with
      | true => rw [if_pos rfl]; exact mk_bt_n hl
      | false => rw [if_neg (by decide)]; exact mk_bt_lt hl (Nat.le_refl _)
    · rw [decide_eq_false (show ¬i < n + 1 by omega), Bool.false_and]
      exact mk_bt_lt (n := n + 1) (mk_mk_lt nb (n + 1)) (by omega)
theorem mk_mk_all (nb : Nat → Bool) : ∀ n, mk_mk nb n = 2 ^ n - 1 ↔ ∀ i, i < n → nb i = true := by
  intro n
  induction n with
  | zero => exact ⟨fun _ i hi => absurd hi (Nat.not_lt_zero _), fun _ => rfl⟩
  | succ n ih =>
    have hl := mk_mk_lt nb n
    have hp := Nat.two_pow_pos n
    show mk_mk nb n + (if nb n = true then 2 ^ n else 0) = 2 ^ (n + 1) - 1 ↔ _
    rw [Nat.pow_succ]
    constructor
    · intro h i hi
      split at h
      · next hn =>
        by_cases e : i = n
        · rw [e]; exact hn
        · exact ih.mp (by omega) i (by omega)
      · omega
    · intro h
      have h1 := ih.mpr (fun i hi => h i (by omega))
      rw [if_pos (h n (Nat.lt_succ_self n)), h1]
      omega
theorem mk_i_bt : ∀ m, m < 16 → ∀ i, i < 4 → ((Int32.ofNat m >>> (Int32.ofNat i &&& 31)) &&& 1) = if mk_bt m i = true then 1 else 0 := by decide +kernel
theorem mk_i_or : ∀ i, i < 4 → ∀ m, m < 2 ^ i → Int32.ofNat m ||| ((1 : Int32) <<< (Int32.ofNat i &&& 31)) = Int32.ofNat (m + 2 ^ i) := by decide +kernel
theorem mk_i_pm : ∀ n, n < 5 → ((1 : Int32) <<< (Int32.ofNat n &&& 31)) - 1 = Int32.ofNat (2 ^ n - 1) := by decide +kernel
theorem mk_i_an : ∀ m, m < 16 → ∀ n, n < 5 → Int32.ofNat m &&& Int32.ofNat (2 ^ n - 1) = Int32.ofNat (m % 2 ^ n) := by decide +kernel
theorem mk_lf_c : ∀ n, n < 5 → ∀ m, m < 2 ^ n → mk_lf m n + kn_c m = n := by decide +kernel
theorem mk_lf_le (m : Nat) : ∀ i, mk_lf m i ≤ i := by
  intro i
  induction i with
  | zero => exact Nat.le_refl _
  | succ i ih =>
    show mk_lf m i + (if mk_bt m i = true then 0 else 1) ≤ i + 1
    split <;> omega
theorem mk_lf_mono (m : Nat) : ∀ i j, i ≤ j → mk_lf m i ≤ mk_lf m j := by
  intro i j h
  induction h with
  | refl => exact Nat.le_refl _
  | step _ ih => exact Nat.le_trans ih (Nat.le_add_right _ _)
theorem mk_sz_a : ∀ l r : List mk_R, mk_sz (l ++ r) = mk_sz l + mk_sz r := by
  intro l r
  induction l with
  | nil => exact (Nat.zero_add _).symm
  | cons a l ih => show a.2.1 + mk_sz (l ++ r) = a.2.1 + mk_sz l + mk_sz r; omega
theorem mk_lt_a : ∀ l r : List mk_R, mk_lt (l ++ r) = mk_lt l + mk_lt r := by
  intro l r
  induction l with
  | nil => exact (Nat.zero_add _).symm
  | cons a l ih => show a.2.2 + mk_lt (l ++ r) = a.2.2 + mk_lt l + mk_lt r; omega
theorem mk_fd_lt {f m : Nat} {kn : Nat → Int32} : ∀ (l : List mk_V) (k j : Nat), mk_fd f m kn l k = some j → k ≤ j ∧ ∃ h : j - k < l.length, mk_is f m kn l[j - k] = true := by
  intro l
  induction l with
  | nil => intro k j h; cases h
  | cons v r ih =>
    intro k j h
    unfold mk_fd at h
    split at h
    · next hv =>
      cases h
      refine ⟨Nat.le_refl _, by rw [Nat.sub_self]; exact Nat.zero_lt_succ _, ?_⟩
      simp only [Nat.sub_self]
      exact hv
    · obtain ⟨h1, h2, h3⟩ := ih _ _ h
      have e : j - k = j - (k + 1) + 1 := by omega
      refine ⟨by omega, by rw [e]; exact Nat.succ_lt_succ h2, ?_⟩
      simp only [e]
      exact h3
theorem mk_fd_no {f m : Nat} {kn : Nat → Int32} : ∀ (l : List mk_V) (k : Nat), mk_fd f m kn l k = none → ∀ v, v ∈ l → mk_is f m kn v = false := by
  intro l
  induction l with
  | nil => intro k _ v hv; cases hv
  | cons v r ih =>
    intro k h w hw
    unfold mk_fd at h
    split at h
    · cases h
    · next hv =>
      rcases List.mem_cons.mp hw with e | e
      · rw [e]; exact Bool.eq_false_iff.mpr hv
      · exact ih _ h w e
