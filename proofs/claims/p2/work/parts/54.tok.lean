/-! Rows of more than four letters are no words; a row is the same token on both sides. -/
theorem lx_sh {v b : Nat} (hv : v < 2 ^ 56) (hb : b < 256) : (Int64.ofNat v <<< ((8 : Int32).toInt64 &&& 63)) ||| Int64.ofNat b = Int64.ofNat (v * 256 + b) := by
  have e8 : ((8 : Int32).toInt64 &&& 63) = (8 : Int64) := by decide
  rw [e8, ← Int64.toBitVec_inj]
  rw [Int64.toBitVec_or, Int64.toBitVec_shiftLeft]
  have e : ((8 : Int64).toBitVec.smod 64) = 8#64 := by decide
  rw [e]
  show (BitVec.ofNat 64 v <<< 8#64) ||| BitVec.ofNat 64 b = BitVec.ofNat 64 (v * 256 + b)
  apply BitVec.eq_of_toNat_eq
  rw [BitVec.toNat_or, BitVec.shiftLeft_eq', BitVec.toNat_shiftLeft]
  simp only [BitVec.toNat_ofNat]
  have h1 : v % 2 ^ 64 = v := Nat.mod_eq_of_lt (by omega)
  have h2 : b % 2 ^ 64 = b := Nat.mod_eq_of_lt (by omega)
  have h3 : (v * 256 + b) % 2 ^ 64 = v * 256 + b := Nat.mod_eq_of_lt (by omega)
  rw [h1, h2, h3]
  have h4 : v <<< (8 % 2 ^ 64) % 2 ^ 64 = v <<< 8 := by
    show v <<< 8 % 2 ^ 64 = v <<< 8
    rw [Nat.shiftLeft_eq]
    exact Nat.mod_eq_of_lt (by omega)
  rw [h4, ← Nat.shiftLeft_add_eq_or_of_lt (show b < 2 ^ 8 by omega), Nat.shiftLeft_eq]
theorem lx_chr {c : Int32} (h : ¬((c < 48 ∨ 57 < c) ∧ (c < 97 ∨ 122 < c))) : ∃ b, 48 ≤ b ∧ b ≤ 122 ∧ c = Int32.ofNat b ∧ (¬(c < 97 ∨ 122 < c) → 97 ≤ b) := by
  have h1 : 48 ≤ c.toInt ∧ c.toInt ≤ 122 := by
    refine ⟨?_, ?_⟩
    · refine Int.not_lt.mp (fun q => h ⟨Or.inl (Int32.lt_iff_toInt_lt.mpr q), Or.inl (Int32.lt_iff_toInt_lt.mpr (show c.toInt < 97 by omega))⟩)
    · refine Int.not_lt.mp (fun q => h ⟨Or.inr (Int32.lt_iff_toInt_lt.mpr (show (57 : Int) < c.toInt by omega)), Or.inr (Int32.lt_iff_toInt_lt.mpr q)⟩)
  refine ⟨c.toInt.toNat, by omega, by omega, ?_, fun q => ?_⟩
  · rw [← Int32.toInt_inj, im_i (by omega)]
    omega
  · have : ¬c.toInt < 97 := fun z => q (Or.inl (Int32.lt_iff_toInt_lt.mpr z))
    omega
theorem lx_big {T : Nat → Int32} {a : Nat} : ∀ k, k ≤ 8 → (∀ j, j < k → ¬((T (a + j) < 48 ∨ 57 < T (a + j)) ∧ (T (a + j) < 97 ∨ 122 < T (a + j)))) → ∃ v, lx_pk T a k = Int64.ofNat v ∧ v < 123 * 256 ^ (k - 1) ∧ (0 < k → ¬(T a < 97 ∨ 122 < T a) → 97 * 256 ^ (k - 1) ≤ v) := by
  intro k
  induction k with
  | zero => intro _ _; exact ⟨0, rfl, by decide, fun h => absurd h (by decide)⟩
  | succ k ih =>
    intro hk hr
    obtain ⟨v, e, h1, h2⟩ := ih (by omega) (fun j hj => hr j (by omega))
    obtain ⟨b, hb1, hb2, eb, hb3⟩ := lx_chr (hr k (by omega))
    have hp : 256 ^ (k - 1) ≤ 256 ^ 6 := Nat.pow_le_pow_right (by decide) (by omega)
    have hp : 256 ^ (k - 1) ≤ 281474976710656 := hp
    have es : lx_pk T a (k + 1) = Int64.ofNat (v * 256 + b) := by
      show (lx_pk T a k <<< ((8 : Int32).toInt64 &&& 63)) ||| (T (a + k)).toInt64 = _
      rw [e, eb, lx_up (by omega), lx_sh (by omega) (by omega)]
    refine ⟨v * 256 + b, es, ?_, fun _ hl => ?_⟩
    · cases k with
      | zero =>
        have h1 : v < 123 * 1 := h1
        have e0 : v = 0 := by
          have e : Int64.ofNat 0 = Int64.ofNat v := e
          have := congrArg Int64.toInt e
          rw [Int64.toInt_ofNat_of_lt (by omega), Int64.toInt_ofNat_of_lt (by omega)] at this
          omega
        show v * 256 + b < 123 * 1
        omega
      | succ k =>
        have h1 : v < 123 * 256 ^ k := h1
        show v * 256 + b < 123 * 256 ^ (k + 1)
        rw [Nat.pow_succ]
        omega
    · cases k with
      | zero =>
        have := hb3 hl
        show 97 * 1 ≤ v * 256 + b
        omega
      | succ k =>
        have h2 : 97 * 256 ^ k ≤ v := h2 (by omega) hl
        show 97 * 256 ^ (k + 1) ≤ v * 256 + b
        rw [Nat.pow_succ]
        omega
theorem lx_nw {v : Nat} (h1 : 1952998766 < v) (h2 : v < 9223372036854775808) : fo_wk (Int64.ofNat v) = 2 := by
  have hi : (Int64.ofNat v).toInt = v := Int64.toInt_ofNat_of_lt h2
  have hne : ∀ c : Int64, c.toInt ≤ 1952998766 → ¬Int64.ofNat v = c := fun c hc q => by
    rw [q] at hi
    omega
  unfold fo_wk
  rw [if_neg (hne _ (by decide)), if_neg (hne _ (by decide)), if_neg (hne _ (by decide)), if_neg (hne _ (by decide)), if_neg (hne _ (by decide))]
theorem lx_w0 (p : Int64) : 0 < mo_wk p ∨ mo_wk p = 0 := by
  unfold mo_wk
  split
  · exact Or.inl (by decide)
  · split
    · exact Or.inl (by decide)
    · split
      · exact Or.inl (by decide)
      · split
        · exact Or.inl (by decide)
        · split
          · exact Or.inl (by decide)
          · exact Or.inr rfl
theorem lx_fg01 (T : Nat → Int32) (a : Nat) : ∀ k, lx_fg T a k = 0 ∨ lx_fg T a k = 1 := by
  intro k
  cases k with
  | zero => exact Or.inr rfl
  | succ k =>
    show (if lx_fg T a k = 0 then 0 else if T (a + k) < 48 ∨ 57 < T (a + k) then 0 else 1) = (0 : Int32) ∨ (if lx_fg T a k = 0 then 0 else if T (a + k) < 48 ∨ 57 < T (a + k) then 0 else 1) = (1 : Int32)
    split
    · exact Or.inl rfl
    · split
      · exact Or.inl rfl
      · exact Or.inr rfl
/-- a row of letters, the first one being one -/
theorem lx_let {T : Nat → Int32} {n a k : Nat} (hr : lx_row T n a k) (hk : 0 < k) (hl : ¬(T a < 97 ∨ 122 < T a)) : lx_cv (lx_k T a k) = mo_kl (lx_pk T a k) k := by
  unfold lx_k mo_kl
  rw [if_neg hl]
  by_cases h8 : 8 < k
  · rw [if_pos h8, if_pos (show 4 < k by omega), if_pos h8]; rfl
  · rw [if_neg h8]
    by_cases h4 : 4 < k
    · rw [if_pos h4, if_neg h8]
      obtain ⟨v, e, h1, h2⟩ := lx_big (T := T) (a := a) k (by omega) (fun j hj => (hr.1 j hj).2)
      have h2 := h2 hk hl
      have hp : 256 ^ (k - 1) ≤ 256 ^ 7 := Nat.pow_le_pow_right (by decide) (by omega)
      have hp : 256 ^ (k - 1) ≤ 72057594037927936 := hp
      have hq : 256 ^ 4 ≤ 256 ^ (k - 1) := Nat.pow_le_pow_right (by decide) (by omega)
      have hq : 4294967296 ≤ 256 ^ (k - 1) := hq
      rw [e, lx_nw (by omega) (by omega)]
      rfl
    · rw [if_neg h4, lx_wk]
      rcases lx_w0 (lx_pk T a k) with h | h
      · rw [if_pos h, if_neg (fun q => by rw [q] at h; exact absurd h (by decide))]
      · rw [if_pos h, if_neg (fun q => by rw [h] at q; exact absurd q (by decide))]
/-- a row that begins with a digit -/
theorem lx_num {T : Nat → Int32} {a k : Nat} (hl : T a < 97 ∨ 122 < T a) : lx_cv (lx_k T a k) = mo_kn (lx_fg T a k) (lx_nm T a k) k ∧ (lx_k T a k = 1 → lx_v T a k = lx_nm T a k) := by
  unfold lx_k mo_kn lx_v
  rw [if_pos hl, if_pos hl]
  by_cases h0 : lx_fg T a k = 0 ∨ 10 < k
  · have e1 : lx_fg T a k = 0 ∨ 10 < k ∨ (2147483647 : Int) < (lx_nu T a k).toInt := by rcases h0 with h | h; exact Or.inl h; exact Or.inr (Or.inl h)
    have e2 : lx_fg T a k = 0 ∨ 10 < k ∨ (2147483647 : Int) < (lx_nm T a k).toInt := by rcases h0 with h | h; exact Or.inl h; exact Or.inr (Or.inl h)
    rw [if_pos e1, if_pos e1, if_pos e2]
    exact ⟨rfl, fun h => absurd h (by decide)⟩
  · have h1 : lx_fg T a k = 1 := by
      rcases lx_fg01 T a k with h | h
      · exact absurd (Or.inl h) h0
      · exact h
    obtain ⟨v, hv, e1, e2⟩ := lx_same k (by omega) h1
    rw [e1, e2]
    by_cases h3 : lx_fg T a k = 0 ∨ 10 < k ∨ (2147483647 : Int) < (Int64.ofNat v).toInt
    · rw [if_pos h3, if_pos h3, if_pos h3]
      exact ⟨rfl, fun h => absurd h (by decide)⟩
    · rw [if_neg h3, if_neg h3, if_neg h3]
      exact ⟨rfl, fun _ => rfl⟩
