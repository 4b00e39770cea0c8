/-! The class's reader: what holds while it goes well, and once it has a fault. -/
def rd_W (b a _k : Nat) : Prop := a = 47 ∨ a = 51 ∨ a = 53 ∨ (b + 1 ≤ a ∧ a ≤ b + 13)
def rd_X (K : Nat → Int32) (V : Nat → Int64) (b : Nat) (S0 : wd_S) : Prop := (b = 11 ∨ b = 29) ∧ S0.2.2.1 47 1 = b ∧ S0.2.2.1 47 2 = b + 1 ∧ (∀ i, i ≤ 1500 → (if Int32.ofNat i < S0.1 4 5 then ro_at 5 (Int32.ofNat i) S0 else 20) = K i) ∧ (∀ i, i ≤ 1500 → K i = 1 ∨ K i = 2 → lo_at 9 (Int32.ofNat i) S0 = V i)
def rd_sc : List (Int64 × Nat) → wd_S → Prop
  | [], _ => True
  | q :: r, S => S.2.1 51 r.length = q.1 ∧ S.1 53 r.length = Int32.ofNat q.2 ∧ q.2 < 16 ∧ rd_sc r S
theorem rd_sc_o {S S' : wd_S} : ∀ (sc : List (Int64 × Nat)), (∀ m, m < sc.length → S'.2.1 51 m = S.2.1 51 m ∧ S'.1 53 m = S.1 53 m) → rd_sc sc S → rd_sc sc S' := by
  intro sc
  induction sc with
  | nil => intro _ _; trivial
  | cons q r ih =>
    intro h hs
    obtain ⟨h1, h2, h4, h3⟩ := hs
    obtain ⟨e1, e2⟩ := h r.length (Nat.lt_succ_self _)
    exact ⟨e1.trans h1, e2.trans h2, h4, ih (fun m hm => h m (Nat.lt_succ_of_lt hm)) h3⟩
def rd_h (K : Nat → Int32) (b : Nat) (S0 : wd_S) (i m : Nat) (sc : List (Int64 × Nat)) (ms : Int32) (S : wd_S) : Prop := of_f (rd_W b) S0 S ∧ i ≤ 1500 ∧ ¬K i = 19 ∧ S.1 47 3 = Int32.ofNat i ∧ S.1 47 4 = K i ∧ S.1 47 5 = 0 ∧ S.1 47 8 = Int32.ofNat m ∧ m ≤ 16 ∧ S.1 47 11 = Int32.ofNat sc.length ∧ sc.length ≤ m ∧ rd_sc sc S ∧ S.1 47 12 = ms
def rd_bd (b : Nat) (S0 : wd_S) (e : ps_E) (s : Nat) (S : wd_S) : Prop := of_f (rd_W b) S0 S ∧ S.1 47 11 = Int32.ofNat s ∧ (¬e.1 = 0 ∧ e.2 ≤ 1500) ∧ ((S.1 47 5 = e.1 ∧ S.1 47 6 = Int32.ofNat e.2 ∧ S.1 47 4 = 20) ∨ (S.1 47 5 = 0 ∧ S.1 47 4 = 19 ∧ S.1 47 3 = Int32.ofNat e.2 ∧ e.1 = 1))
section Rd
variable {K : Nat → Int32} {V : Nat → Int64} {b : Nat} {S0 : wd_S} {i m : Nat} {sc : List (Int64 × Nat)} {ms : Int32} {S S' : wd_S} {e : ps_E} {s : Nat} {k : Int32}
theorem rd_kind (hX : rd_X K V b S0) (ho : of_f (rd_W b) S0 S) (hi : i ≤ 1500) : (if Int32.ofNat i < S.1 4 5 then ro_at 5 (Int32.ofNat i) S else 20) = K i := by
  obtain ⟨hb, -, -, h, -⟩ := hX
  have e1 : S.1 4 5 = S0.1 4 5 := ho.1 4 5 (by unfold rd_W; omega)
  have e2 : S.1 6 = S0.1 6 := funext (fun m => ho.1 6 m (by unfold rd_W; omega))
  rw [e1, fr_at 5 _ e2]
  exact h i hi
theorem rd_val (hX : rd_X K V b S0) (ho : of_f (rd_W b) S0 S) (hi : i ≤ 1500) (hk : K i = 1 ∨ K i = 2) : lo_at 9 (Int32.ofNat i) S = V i := by
  obtain ⟨hb, -, -, -, h⟩ := hX
  have e2 : S.2.1 10 = S0.2.1 10 := funext (fun m => ho.2.1 10 m (by unfold rd_W; omega))
  rw [fr_lat 9 _ e2]
  exact h i hi hk
theorem rd_r1 (hX : rd_X K V b S0) (ho : of_f (rd_W b) S0 S) : S.2.2.1 47 1 = b := by
  rw [ho.2.2]
  exact hX.2.1
theorem rd_r2 (hX : rd_X K V b S0) (ho : of_f (rd_W b) S0 S) : S.2.2.1 47 2 = b + 1 := by
  rw [ho.2.2]
  exact hX.2.2.1
theorem rd_t1 (hX : rd_X K V b S0) : tp_t b = (0, 0) := by
  rcases hX.1 with h | h <;> rw [h] <;> rfl
theorem rd_t2 (hX : rd_X K V b S0) : tp_t (b + 1) = (0, 8) := by
  rcases hX.1 with h | h <;> rw [h] <;> rfl
theorem rd_L (hX : rd_X K V b S0) : nd_L (b + 1) 1500 := by
  rcases hX.1 with h | h <;> rw [h] <;> exact ⟨rfl, rfl, rfl, rfl, rfl, rfl⟩
/-- faults -/
theorem rd_fa0 {x y : Int32} (h : S.1 47 5 = 0) : fo_fa x y S = wd_i (wd_i (wd_i S 47 5 x) 47 6 y) 47 4 20 := if_pos h
theorem rd_fa1 {x y : Int32} (h : ¬S.1 47 5 = 0) : fo_fa x y S = S := if_neg h
theorem rd_fa_out {x y : Int32} : (∀ a, a ≠ 47 → (fo_fa x y S).1 a = S.1 a) ∧ (∀ k, k ≠ 4 → k ≠ 5 → k ≠ 6 → (fo_fa x y S).1 47 k = S.1 47 k) ∧ (fo_fa x y S).2 = S.2 := by
  unfold fo_fa
  split
  · refine ⟨fun a ha => ?_, fun k h4 h5 h6 => ?_, rfl⟩
    · rw [fr_row _ ha, fr_row _ ha, fr_row _ ha]
    · rw [fr_ne (by omega), fr_ne (by omega), fr_ne (by omega)]
  · exact ⟨fun _ _ => rfl, fun _ _ _ _ => rfl, rfl⟩
theorem rd_tk_out : (∀ a, a ≠ 47 → (fo_tk k S).1 a = S.1 a) ∧ (∀ n, n ≠ 3 → n ≠ 4 → n ≠ 5 → n ≠ 6 → (fo_tk k S).1 47 n = S.1 47 n) ∧ (fo_tk k S).2 = S.2 := by
  unfold fo_tk
  split
  · split
    · refine ⟨fun a ha => ?_, fun k h3 h4 h5 h6 => ?_, rfl⟩
      · rw [fr_row _ ha, fr_row _ ha]
      · rw [fr_ne (by omega), fr_ne (by omega)]
    · obtain ⟨h1, h2, h3⟩ := rd_fa_out (S := S) (x := 6) (y := S.1 47 3)
      exact ⟨h1, fun n _ h4 h5 h6 => h2 n h4 h5 h6, h3⟩
  · unfold fo_rf
    obtain ⟨h1, h2, h3⟩ := rd_fa_out (S := S) (x := if S.1 47 4 = 19 then 1 else 2) (y := S.1 47 3)
    exact ⟨h1, fun n _ h4 h5 h6 => h2 n h4 h5 h6, h3⟩
theorem rd_of47 (h1 : ∀ a, a ≠ 47 → S'.1 a = S.1 a) (h2 : S'.2 = S.2) (h : of_f (rd_W b) S0 S) : of_f (rd_W b) S0 S' := by
  refine ⟨fun a k q => ?_, fun a k q => ?_, ?_⟩
  · rw [h1 a (fun z => q (Or.inl z))]
    exact h.1 a k q
  · rw [h2]
    exact h.2.1 a k q
  · rw [h2]
    exact h.2.2
theorem rd_oft (h1 : ∀ a, a < b + 1 ∨ b + 13 < a → S'.1 a = S.1 a) (h2 : S'.2 = S.2) (h : of_f (rd_W b) S0 S) : of_f (rd_W b) S0 S' := by
  refine ⟨fun a k q => ?_, fun a k q => ?_, ?_⟩
  · rw [h1 a (by unfold rd_W at q; omega)]
    exact h.1 a k q
  · rw [h2]
    exact h.2.1 a k q
  · rw [h2]
    exact h.2.2
theorem rd_h_t (hb : b = 11 ∨ b = 29) (h1 : ∀ a, a < b + 1 ∨ b + 13 < a → S'.1 a = S.1 a) (h2 : S'.2 = S.2) (h : rd_h K b S0 i m sc ms S) : rd_h K b S0 i m sc ms S' := by
  obtain ⟨a1, a2, a3, a4, a5, a6, a7, a8, a9, a10, a11, a12⟩ := h
  have e : S'.1 47 = S.1 47 := h1 47 (by omega)
  refine ⟨rd_oft h1 h2 a1, a2, a3, ?_, ?_, ?_, ?_, a8, ?_, a10, rd_sc_o sc (fun m _ => ⟨by rw [h2], by rw [h1 53 (by omega)]⟩) a11, ?_⟩
  · rw [e]; exact a4
  · rw [e]; exact a5
  · rw [e]; exact a6
  · rw [e]; exact a7
  · rw [e]; exact a9
  · rw [e]; exact a12
theorem rd_bd_t (hb : b = 11 ∨ b = 29) (h1 : ∀ a, a < b + 1 ∨ b + 13 < a → S'.1 a = S.1 a) (h2 : S'.2 = S.2) (h : rd_bd b S0 e s S) : rd_bd b S0 e s S' := by
  obtain ⟨a1, a2, a3, a4⟩ := h
  have e : S'.1 47 = S.1 47 := h1 47 (by omega)
  refine ⟨rd_oft h1 h2 a1, ?_, a3, ?_⟩
  · rw [e]; exact a2
  · rw [e]; exact a4
/-- a change of the reader's own numbers that a fault doesn't look at -/
theorem rd_bd_i {n : Nat} {v : Int32} (hn : n ≠ 3 ∧ n ≠ 4 ∧ n ≠ 5 ∧ n ≠ 6 ∧ n ≠ 11) (h : rd_bd b S0 e s S) : rd_bd b S0 e s (wd_i S 47 n v) := by
  obtain ⟨a1, a2, a3, a4⟩ := h
  refine ⟨of_i (Or.inl rfl) a1, ?_, a3, ?_⟩
  · rw [fr_ne (by omega)]; exact a2
  · rw [fr_ne (by omega), fr_ne (by omega), fr_ne (by omega), fr_ne (by omega)]; exact a4
theorem rd_bd_11 {u : Nat} (h : rd_bd b S0 e s S) : rd_bd b S0 e u (wd_i S 47 11 (Int32.ofNat u)) := by
  obtain ⟨a1, a2, a3, a4⟩ := h
  refine ⟨of_i (Or.inl rfl) a1, fr_eq, a3, ?_⟩
  rw [fr_ne (by omega), fr_ne (by omega), fr_ne (by omega), fr_ne (by omega)]; exact a4
theorem rd_bd_rf (h : rd_bd b S0 e s S) : rd_bd b S0 e s (fo_rf S) ∧ (fo_rf S).1 47 4 = 20 := by
  obtain ⟨a1, a2, a3, a4⟩ := h
  unfold fo_rf
  rcases a4 with ⟨c1, c2, c3⟩ | ⟨c1, c2, c3, c4⟩
  · rw [rd_fa1 (by rw [c1]; exact a3.1)]
    exact ⟨⟨a1, a2, a3, Or.inl ⟨c1, c2, c3⟩⟩, c3⟩
  · rw [rd_fa0 c1, if_pos c2, c3]
    refine ⟨⟨of_i (Or.inl rfl) (of_i (Or.inl rfl) (of_i (Or.inl rfl) a1)), ?_, a3, Or.inl ⟨?_, ?_, fr_eq⟩⟩, fr_eq⟩
    · rw [fr_ne (by omega), fr_ne (by omega), fr_ne (by omega)]; exact a2
    · rw [fr_ne (by omega), fr_ne (by omega), fr_eq, c4]
    · rw [fr_ne (by omega), fr_eq]
theorem rd_bd_4 (h : rd_bd b S0 e s S) : S.1 47 4 = 20 ∨ S.1 47 4 = 19 := by
  rcases h.2.2.2 with ⟨-, -, c⟩ | ⟨-, c, -⟩
  · exact Or.inl c
  · exact Or.inr c
theorem rd_bd_ne (h : rd_bd b S0 e s S) (h1 : k ≠ 19) (h2 : k ≠ 20) : ¬S.1 47 4 = k := by
  rcases rd_bd_4 h with c | c
  · rw [c]; exact fun q => h2 q.symm
  · rw [c]; exact fun q => h1 q.symm
theorem rd_bd_tk (h : rd_bd b S0 e s S) (h1 : k ≠ 19) (h2 : k ≠ 20) : rd_bd b S0 e s (fo_tk k S) := by
  unfold fo_tk
  rw [if_neg (rd_bd_ne h h1 h2)]
  exact (rd_bd_rf h).1
/-- a token is taken -/
theorem rd_tk_ok (hX : rd_X K V b S0) (h : rd_h K b S0 i m sc ms S) {j : Nat} (q : ps_take K k i = .ok j) : rd_h K b S0 j m sc ms (fo_tk k S) := by
  obtain ⟨q1, q2, rfl, q4⟩ := ps_take_ok q
  obtain ⟨h1, h2, h3⟩ := rd_tk_out (k := k) (S := S)
  have hb := hX.1
  obtain ⟨a1, a2, a3, a4, a5, a6, a7, a8, a9, a10, a11, a12⟩ := h
  have e : fo_tk k S = wd_i (wd_i S 47 3 (Int32.ofNat (i + 1))) 47 4 (K (i + 1)) := by
    unfold fo_tk
    rw [a5, if_pos q1, a4, if_pos ((mo_lt (m := 1500) (b := 1500) (by omega) (by omega) rfl).mpr q2), im_s, rd_kind hX a1 (by omega)]
  refine ⟨rd_of47 h1 h3 a1, by omega, q4, ?_, ?_, ?_, ?_, a8, ?_, a10, rd_sc_o sc (fun m _ => ⟨by rw [h3], by rw [h1 53 (by omega)]⟩) a11, ?_⟩
  · rw [e, fr_ne (by omega), fr_eq]
  · rw [e, fr_eq]
  · rw [e, fr_ne (by omega), fr_ne (by omega)]; exact a6
  · rw [h2 8 (by omega) (by omega) (by omega) (by omega)]; exact a7
  · rw [h2 11 (by omega) (by omega) (by omega) (by omega)]; exact a9
  · rw [h2 12 (by omega) (by omega) (by omega) (by omega)]; exact a12
theorem rd_fault (h : rd_h K b S0 i m sc ms S) {x : Int32} (hx : ¬x = 0) : rd_bd b S0 (x, i) sc.length (fo_fa x (S.1 47 3) S) := by
  obtain ⟨a1, a2, a3, a4, a5, a6, a7, a8, a9, a10, a11, a12⟩ := h
  rw [rd_fa0 a6, a4]
  refine ⟨of_i (Or.inl rfl) (of_i (Or.inl rfl) (of_i (Or.inl rfl) a1)), ?_, ⟨hx, a2⟩, Or.inl ⟨?_, ?_, fr_eq⟩⟩
  · rw [fr_ne (by omega), fr_ne (by omega), fr_ne (by omega)]; exact a9
  · rw [fr_ne (by omega), fr_ne (by omega), fr_eq]
  · rw [fr_ne (by omega), fr_eq]
theorem rd_refuse (h : rd_h K b S0 i m sc ms S) : rd_bd b S0 (2, i) sc.length (fo_rf S) := by
  unfold fo_rf
  rw [if_neg (by rw [h.2.2.2.2.1]; exact h.2.2.1)]
  exact rd_fault h (by decide)
theorem rd_tk_er (hX : rd_X K V b S0) (h : rd_h K b S0 i m sc ms S) (q : ps_take K k i = .error e) : rd_bd b S0 e sc.length (fo_tk k S) := by
  have h0 := h
  obtain ⟨a1, a2, a3, a4, a5, a6, a7, a8, a9, a10, a11, a12⟩ := h
  unfold ps_take at q
  unfold fo_tk
  rw [a5]
  by_cases q1 : K i = k
  · rw [if_pos q1] at q ⊢
    by_cases q2 : i < 1500
    · rw [if_pos q2] at q
      rw [a4, if_pos ((mo_lt (m := 1500) (b := 1500) (by omega) (by omega) rfl).mpr q2), im_s, rd_kind hX a1 (by omega)]
      by_cases q3 : K (i + 1) = 19
      · rw [if_pos q3] at q
        cases q
        refine ⟨of_i (Or.inl rfl) (of_i (Or.inl rfl) a1), ?_, ⟨(show ¬(1 : Int32) = 0 by decide), (show i + 1 ≤ 1500 by omega)⟩, Or.inr ⟨?_, ?_, ?_, rfl⟩⟩
        · rw [fr_ne (by omega), fr_ne (by omega)]; exact a9
        · rw [fr_ne (by omega), fr_ne (by omega)]; exact a6
        · rw [fr_eq]; exact q3
        · rw [fr_ne (by omega), fr_eq]
      · rw [if_neg q3] at q
        cases q
    · rw [if_neg q2] at q
      cases q
      rw [if_neg (fun z => q2 (by rw [a4] at z; exact (mo_lt (m := 1500) (b := 1500) (by omega) (by omega) rfl).mp z))]
      exact rd_fault h0 (by decide)
  · rw [if_neg q1] at q ⊢
    cases q
    exact rd_refuse h0
end Rd
