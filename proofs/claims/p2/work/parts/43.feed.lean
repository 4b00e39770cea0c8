/-! feed, on both sides. -/
theorem mo_shift : ∀ q, q < 20 → ((24 : Int32) - ((8 : Int32) * (Int32.ofNat q - Int32.ofNat q / (4 : Int32) * (4 : Int32)))) = (if q % 4 = 0 then 24 else if q % 4 = 1 then 16 else if q % 4 = 2 then 8 else 0) := by decide
theorem mo_byte (x : Int32) {q : Nat} (hq : q < 20) : ((x >>> (((24 : Int32) - ((8 : Int32) * (Int32.ofNat q - Int32.ofNat q / (4 : Int32) * (4 : Int32)))) &&& 31)) &&& (255 : Int32)) = tp_byte x (q % 4) := by
  rw [mo_shift q hq]
  unfold tp_byte
  by_cases h0 : q % 4 = 0
  · rw [if_pos h0, if_pos h0]
  · rw [if_neg h0, if_neg h0]
    by_cases h1 : q % 4 = 1
    · rw [if_pos h1, if_pos h1]
    · rw [if_neg h1, if_neg h1]
      by_cases h2 : q % 4 = 2
      · rw [if_pos h2, if_pos h2]
      · rw [if_neg h2, if_neg h2]
theorem mo_87 {kk : Int32 → Int32 → Int32 → Int32 → Int32 → Int32 → wd_S → Option (Int32 × wd_S)} {l1 l2 l3 l4 l5 s0 : Int32} {n q : Nat} {S : wd_S} (hS : S.1 135 2 = Int32.ofNat n) (hn : n < 8000) (hq : q < 20) : fn_Mo_feed_87 kk l1 l2 l3 l4 l5 (Int32.ofNat q) s0 S = kk l1 l2 l3 l4 l5 (Int32.ofNat (q + 1)) (tp_one 136 135 2 n (tp_byte s0 (q % 4)) S) := by
  unfold fn_Mo_feed_87 wd_b tp_one
  rw [hS, im_t (by omega), if_neg (by rintro (h | h); exact im_neg (by omega) h; omega), mo_byte s0 hq]
  have e : (wd_i S 136 n (tp_byte s0 (q % 4))).1 135 2 = Int32.ofNat n := by
    rw [fr_i1, if_neg (by rintro ⟨h1, -⟩; exact absurd h1 (by decide)), hS]
  simp only []
  rw [e, im_s, im_s]
def mo_sel (l1 l2 l3 l4 l5 : Int32) (q : Nat) : Int32 := if q < 4 then l1 else if q < 8 then l2 else if q < 12 then l3 else if q < 16 then l4 else l5
theorem mo_lt {q m : Nat} (hq : q < 2147483648) (hm : m < 2147483648) {b : Int32} (hb : b = Int32.ofNat m) : Int32.ofNat q < b ↔ q < m := by
  rw [hb]
  exact im_lt hq hm
theorem mo_step {l1 l2 l3 l4 l5 : Int32} {n q f : Nat} {S : wd_S} (hS : S.1 135 2 = Int32.ofNat n) (hn : n < 8000) (hq : q < 20) : fn_Mo_feed_34 (f + 1) l1 l2 l3 l4 l5 (Int32.ofNat q) S = fn_Mo_feed_34 f l1 l2 l3 l4 l5 (Int32.ofNat (q + 1)) (tp_one 136 135 2 n (tp_byte (mo_sel l1 l2 l3 l4 l5 q) (q % 4)) S) := by
  rw [fn_Mo_feed_34, if_pos ((mo_lt (m := 20) (b := 20) (by omega) (by omega) rfl).mpr hq)]
  unfold mo_sel
  by_cases h4 : q < 4
  · rw [if_pos ((mo_lt (m := 4) (b := 4) (by omega) (by omega) rfl).mpr h4), if_pos h4, mo_87 hS hn hq]
  · rw [if_neg (fun h => h4 ((mo_lt (m := 4) (b := 4) (by omega) (by omega) rfl).mp h)), if_neg h4]
    by_cases h8 : q < 8
    · rw [if_pos ((mo_lt (m := 8) (b := 8) (by omega) (by omega) rfl).mpr h8), if_pos h8, mo_87 hS hn hq]
    · rw [if_neg (fun h => h8 ((mo_lt (m := 8) (b := 8) (by omega) (by omega) rfl).mp h)), if_neg h8]
      by_cases h12 : q < 12
      · rw [if_pos ((mo_lt (m := 12) (b := 12) (by omega) (by omega) rfl).mpr h12), if_pos h12, mo_87 hS hn hq]
      · rw [if_neg (fun h => h12 ((mo_lt (m := 12) (b := 12) (by omega) (by omega) rfl).mp h)), if_neg h12]
        by_cases h16 : q < 16
        · rw [if_pos ((mo_lt (m := 16) (b := 16) (by omega) (by omega) rfl).mpr h16), if_pos h16, mo_87 hS hn hq]
        · rw [if_neg (fun h => h16 ((mo_lt (m := 16) (b := 16) (by omega) (by omega) rfl).mp h)), if_neg h16, mo_87 hS hn hq]
/-- twenty bytes more -/
def tp_feed (a b k n : Nat) (x1 x2 x3 x4 x5 : Int32) (S : wd_S) : wd_S := tp_four a b k (n + 16) x5 (tp_four a b k (n + 12) x4 (tp_four a b k (n + 8) x3 (tp_four a b k (n + 4) x2 (tp_four a b k n x1 S))))
theorem tp_fourL {a b k n : Nat} {x : Int32} {S : wd_S} : (tp_four a b k n x S).1 b k = Int32.ofNat (n + 4) := tp_oneL
theorem mo_four {l1 l2 l3 l4 l5 : Int32} {n q f : Nat} {S : wd_S} (hS : S.1 135 2 = Int32.ofNat n) (hn : n + 4 ≤ 8000) (hq : q + 4 ≤ 20) (h4 : q % 4 = 0) : fn_Mo_feed_34 (f + 1 + 1 + 1 + 1) l1 l2 l3 l4 l5 (Int32.ofNat q) S = fn_Mo_feed_34 f l1 l2 l3 l4 l5 (Int32.ofNat (q + 4)) (tp_four 136 135 2 n (mo_sel l1 l2 l3 l4 l5 q) S) := by
  have e : ∀ i, i < 4 → mo_sel l1 l2 l3 l4 l5 (q + i) = mo_sel l1 l2 l3 l4 l5 q := by
    intro i hi
    unfold mo_sel
    have h0 : q = 0 ∨ q = 4 ∨ q = 8 ∨ q = 12 ∨ q = 16 := by omega
    have h1 : i = 0 ∨ i = 1 ∨ i = 2 ∨ i = 3 := by omega
    rcases h0 with rfl | rfl | rfl | rfl | rfl <;> rcases h1 with rfl | rfl | rfl | rfl <;> rfl
  rw [mo_step hS (by omega) (by omega), mo_step (n := n + 1) tp_oneL (by omega) (by omega), mo_step (n := n + 2) tp_oneL (by omega) (by omega), mo_step (n := n + 3) tp_oneL (by omega) (by omega)]
  rw [e 1 (by omega), show q + 1 + 1 = q + 2 from rfl, e 2 (by omega), show q + 2 + 1 = q + 3 from rfl, e 3 (by omega)]
  rw [h4, show (q + 1) % 4 = 1 by omega, show (q + 2) % 4 = 2 by omega, show (q + 3) % 4 = 3 by omega]
  rfl
theorem mo_feed {l1 l2 l3 l4 l5 : Int32} {n : Nat} {S : wd_S} (hS : S.1 135 2 = Int32.ofNat n) (hn : n + 20 ≤ 8000) : fn_Mo_feed_34 wd_F l1 l2 l3 l4 l5 0 S = some (Int32.ofNat (n + 20), tp_feed 136 135 2 n l1 l2 l3 l4 l5 S) := by
  rw [show wd_F = 999979 + 1 + 1 + 1 + 1 + 1 + 1 + 1 + 1 + 1 + 1 + 1 + 1 + 1 + 1 + 1 + 1 + 1 + 1 + 1 + 1 + 1 from rfl, show (0 : Int32) = Int32.ofNat 0 from rfl]
  rw [mo_four (q := 0) hS (by omega) (by omega) rfl, mo_four (q := 4) (n := n + 4) tp_fourL (by omega) (by omega) rfl, mo_four (q := 8) (n := n + 8) tp_fourL (by omega) (by omega) rfl, mo_four (q := 12) (n := n + 12) tp_fourL (by omega) (by omega) rfl, mo_four (q := 16) (n := n + 16) tp_fourL (by omega) (by omega) rfl]
  rw [fn_Mo_feed_34, if_neg (by decide), tp_fourL]
  rfl
/-- the class's feed -/
theorem sp_feed {l1 l2 l3 l4 l5 : Int32} {n : Nat} {S : wd_S} (hS : S.1 1 1 = Int32.ofNat n) (hn : n ≤ 8000) : fn_Sp_feed l1 l2 l3 l4 l5 S = if 8000 < n + 20 then some (.inr "java/lang/IllegalStateException", wd_n S) else some (.inl (Int32.ofNat (n + 20)), tp_feed 3 1 1 n l1 l2 l3 l4 l5 S) := by
  unfold fn_Sp_feed
  have e : (8000 : Int32) < Int32.ofNat n + 20 ↔ 8000 < n + 20 := by
    rw [show Int32.ofNat n + 20 = Int32.ofNat (n + 20) from (Int32.ofNat_add n 20).symm, show (8000 : Int32) = Int32.ofNat 8000 from rfl]
    exact im_lt (by omega) (by omega)
  rw [hS]
  by_cases h : 8000 < n + 20
  · rw [if_pos (e.mpr h), if_pos h]
  · rw [if_neg (fun q => h (e.mp q)), if_neg h]
    rw [tp_feedFour (n := n) (by omega) hS, wd_d_s, tp_feedFour (n := n + 4) (by omega) tp_fourL, wd_d_s, tp_feedFour (n := n + 8) (by omega) tp_fourL, wd_d_s, tp_feedFour (n := n + 12) (by omega) tp_fourL, wd_d_s, tp_feedFour (n := n + 16) (by omega) tp_fourL, wd_d_s, tp_fourL]
    rfl
