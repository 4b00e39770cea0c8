/-! The tape: the bytes of a number. -/
theorem tp_255 : ∀ i, i < 32 → ((255#32).getLsbD i = decide (i < 8)) := by decide
theorem tp_bits (x : BitVec 32) (s : Nat) (hs : s ≤ 24) : (x >>> s) &&& 255#32 = (x.sshiftRight s) &&& 255#32 := by
  apply BitVec.eq_of_getLsbD_eq
  intro i hi
  rw [BitVec.getLsbD_and, BitVec.getLsbD_and, tp_255 i hi]
  by_cases h8 : i < 8
  · rw [BitVec.getLsbD_ushiftRight, BitVec.getLsbD_sshiftRight]
    have h1 : s + i < 32 := by omega
    have h2 : ¬(32 ≤ i) := by omega
    simp [h1, h2]
  · simp [h8]
theorem tp_sh24 (x : Int32) : ((x.toUInt32 >>> ((24 : Int32).toUInt32 &&& Int32.toUInt32 31)).toInt32 &&& 255) = (x >>> ((24 : Int32) &&& 31)) &&& 255 := by
  apply Int32.toBitVec.inj
  exact tp_bits x.toBitVec 24 (by decide)
theorem tp_sh16 (x : Int32) : ((x.toUInt32 >>> ((16 : Int32).toUInt32 &&& Int32.toUInt32 31)).toInt32 &&& 255) = (x >>> ((16 : Int32) &&& 31)) &&& 255 := by
  apply Int32.toBitVec.inj
  exact tp_bits x.toBitVec 16 (by decide)
theorem tp_sh8 (x : Int32) : ((x.toUInt32 >>> ((8 : Int32).toUInt32 &&& Int32.toUInt32 31)).toInt32 &&& 255) = (x >>> ((8 : Int32) &&& 31)) &&& 255 := by
  apply Int32.toBitVec.inj
  exact tp_bits x.toBitVec 8 (by decide)
theorem tp_sh0 (x : Int32) : ((x.toUInt32 >>> ((0 : Int32).toUInt32 &&& Int32.toUInt32 31)).toInt32 &&& 255) = (x >>> ((0 : Int32) &&& 31)) &&& 255 := by
  apply Int32.toBitVec.inj
  exact tp_bits x.toBitVec 0 (by decide)
/-- byte q of a number, the first the highest -/
def tp_byte (x : Int32) (q : Nat) : Int32 := if q = 0 then (x >>> ((24 : Int32) &&& 31)) &&& 255 else if q = 1 then (x >>> ((16 : Int32) &&& 31)) &&& 255 else if q = 2 then (x >>> ((8 : Int32) &&& 31)) &&& 255 else (x >>> ((0 : Int32) &&& 31)) &&& 255
/-- a byte more on a tape of n bytes: array a, its length at (b, k) -/
def tp_one (a b k n : Nat) (v : Int32) (S : wd_S) : wd_S := wd_i (wd_i S a n v) b k (Int32.ofNat (n + 1))
theorem tp_put {n : Nat} (h : n < 8000) (v : Int32) (S : wd_S) : fn_Row_put 2 (Int32.ofNat n) v S = some (wd_i S 3 n v) := by
  rw [ro_put_ok]
  unfold ro_put
  rw [im_t (by omega), if_neg]
  rintro (h1 | h1)
  · exact im_neg (by omega) h1
  · have : (tp_t (2 + 1)).2 = 8000 := rfl
    omega
theorem tp_step {n f : Nat} (h : n < 8000) {x l : Int32} {S : wd_S} (hS : S.1 1 1 = Int32.ofNat n) (hl : ¬l < 0) : fn_Sp_feedFour_3 (f + 1) x l S = fn_Sp_feedFour_3 f x (l + -8) (tp_one 3 1 1 n ((x.toUInt32 >>> (l.toUInt32 &&& Int32.toUInt32 31)).toInt32 &&& 255) S) := by
  rw [fn_Sp_feedFour_3, if_neg hl, hS, tp_put h, wd_d_s]
  unfold wd_b tp_one
  have e : (wd_i S 3 n ((x.toUInt32 >>> (l.toUInt32 &&& Int32.toUInt32 31)).toInt32 &&& 255)).1 1 1 = Int32.ofNat n := by
    rw [fr_i1, if_neg (by rintro ⟨h1, -⟩; exact absurd h1 (by decide)), hS]
  rw [e, im_s]
theorem tp_oneL {a b k n : Nat} {v : Int32} {S : wd_S} : (tp_one a b k n v S).1 b k = Int32.ofNat (n + 1) := by
  unfold tp_one
  rw [fr_i1, if_pos ⟨rfl, rfl⟩]
/-- four bytes more -/
def tp_four (a b k n : Nat) (x : Int32) (S : wd_S) : wd_S := tp_one a b k (n + 3) (tp_byte x 3) (tp_one a b k (n + 2) (tp_byte x 2) (tp_one a b k (n + 1) (tp_byte x 1) (tp_one a b k n (tp_byte x 0) S)))
theorem tp_feedFour {n : Nat} (h : n + 4 ≤ 8000) {x : Int32} {S : wd_S} (hS : S.1 1 1 = Int32.ofNat n) : fn_Sp_feedFour x S = some (tp_four 3 1 1 n x S) := by
  unfold fn_Sp_feedFour
  rw [show wd_F = 999994 + 1 + 1 + 1 + 1 + 1 + 1 from rfl]
  rw [tp_step (n := n) (by omega) hS (by decide), tp_sh24]
  rw [show (24 : Int32) + -8 = 16 from rfl, tp_step (n := n + 1) (by omega) tp_oneL (by decide), tp_sh16]
  rw [show (16 : Int32) + -8 = 8 from rfl, tp_step (n := n + 2) (by omega) tp_oneL (by decide), tp_sh8]
  rw [show (8 : Int32) + -8 = 0 from rfl, tp_step (n := n + 3) (by omega) tp_oneL (by decide), tp_sh0]
  rw [show (0 : Int32) + -8 = -8 from rfl, fn_Sp_feedFour_3, if_pos (by decide)]
  rfl
