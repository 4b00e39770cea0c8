/-! The class's reader: what each part comes to; numbers, names, an E that becomes a part. -/
def rd_ms (ms : Int32) : List (Nat × Nat) → Int32
  | [] => ms
  | q :: r => rd_ms (if q.2 = 0 ∧ ms = -1 then Int32.ofNat q.1 else ms) r
theorem rd_ms_a : ∀ (M N : List (Nat × Nat)) (ms : Int32), rd_ms ms (M ++ N) = rd_ms (rd_ms ms M) N := by
  intro M
  induction M with
  | nil => intro N ms; rfl
  | cons q r ih => intro N ms; exact ih N _
def rd_G (K : Nat → Int32) (b : Nat) (S0 : wd_S) (m : Nat) (sc : List (Int64 × Nat)) (ms : Int32) (c d : Nat) (S : wd_S) (q : ps_O) (x : Int32) (S' : wd_S) : Prop := rd_h K b S0 q.2.2.2.1 q.2.2.2.2 sc (rd_ms ms q.2.1) S' ∧ S'.1 (b + 1) 6 = Int32.ofNat (c + q.2.2.1) ∧ nd_g (b + 1) (fun x => x < c) S S' ∧ ∃ y, x = Int32.ofNat y ∧ nd_t (b + 1) S' c (c + q.2.2.1) d y q.1 ∧ S'.1 (b + 1 + 10) y = Int32.ofNat q.2.2.1 ∧ S'.1 (b + 1 + 12) y = Int32.ofNat (q.2.2.2.2 - m) ∧ nd_c (b + 1) S' q.2.2.1 c = ps_cl q.2.1
def rd_R (K : Nat → Int32) (b : Nat) (S0 : wd_S) (m : Nat) (sc : List (Int64 × Nat)) (ms : Int32) (c d : Nat) (S : wd_S) (r : Except ps_E ps_O) (x : Int32) (S' : wd_S) : Prop := match r with
  | .error e => rd_bd b S0 e sc.length S'
  | .ok q => rd_G K b S0 m sc ms c d S q x S'
/-- code f does what p says -/
def rd_C (K : Nat → Int32) (b : Nat) (S0 : wd_S) (sc : List (Int64 × Nat)) (d : Nat) (p : Nat → Nat → Except ps_E ps_O) (f : wd_S → Option (Int32 × wd_S)) : Prop := ∀ (i m : Nat) (ms : Int32) (c : Nat) (S : wd_S), rd_h K b S0 i m sc ms S → S.1 (b + 1) 6 = Int32.ofNat c → c ≤ i → ∃ x S', f S = some (x, S') ∧ rd_R K b S0 m sc ms c d S (p i m) x S'
section Rd3
variable {K : Nat → Int32} {V : Nat → Int64} {b : Nat} {S0 : wd_S} {i m : Nat} {sc : List (Int64 × Nat)} {ms : Int32} {S S' S1 : wd_S} {e : ps_E} {s : Nat} {k : Int32} {n c d : Nat} {a z : Int32}
theorem nd_t_b {t lo hi d y : Nat} {T : tr_T} (h : nd_t t S lo hi d y T) : lo ≤ y ∧ y < hi := by
  cases d with
  | zero => exact absurd h id
  | succ d => exact ⟨h.1, h.2.1⟩
theorem rd_R_pre {r : Except ps_E ps_O} {x : Int32} (hn : nd_g (b + 1) (fun x => x < c) S S1) (h : rd_R K b S0 m sc ms c d S1 r x S') : rd_R K b S0 m sc ms c d S r x S' := by
  cases r with
  | error e => exact h
  | ok q =>
    obtain ⟨h1, h2, h3, h4⟩ := h
    exact ⟨h1, h2, nd_trans hn h3, h4⟩
theorem rd_R_d {r : Except ps_E ps_O} {x : Int32} {d' : Nat} (hd : d ≤ d') (h : rd_R K b S0 m sc ms c d S r x S') : rd_R K b S0 m sc ms c d' S r x S' := by
  cases r with
  | error e => exact h
  | ok q =>
    obtain ⟨h1, h2, h3, y, h4, h5, h6⟩ := h
    exact ⟨h1, h2, h3, y, h4, nd_t_le h5 hd, h6⟩
theorem rd_C_d {p : Nat → Nat → Except ps_E ps_O} {f : wd_S → Option (Int32 × wd_S)} {d' : Nat} (hd : d ≤ d') (h : rd_C K b S0 sc d p f) : rd_C K b S0 sc d' p f := fun i m ms c S h1 h2 h3 => by
  obtain ⟨x, S', e, hr⟩ := h i m ms c S h1 h2 h3
  exact ⟨x, S', e, rd_R_d hd hr⟩
theorem rd_tk_nd {p : Nat → Prop} (hb : b = 11 ∨ b = 29) : nd_g (b + 1) p S (fo_tk k S) := nd_rows (fun a h1 h2 => (rd_tk_out (k := k) (S := S)).1 a (by omega))
theorem rd_tk_c (hb : b = 11 ∨ b = 29) : (fo_tk k S).1 (b + 1) = S.1 (b + 1) := (rd_tk_out (k := k) (S := S)).1 (b + 1) (by omega)
theorem rd_op_h (hb : b = 11 ∨ b = 29) {v : Int32} (h : rd_h K b S0 i m sc ms S) : rd_h K b S0 i m sc ms (fo_op (b + 1) k v S) := by
  obtain ⟨h1, h2⟩ := nd_op_out (b + 1) k v S
  exact rd_h_t hb (fun a ha => h1 a (by omega)) h2 h
theorem rd_op_b (hb : b = 11 ∨ b = 29) {v : Int32} (h : rd_bd b S0 e s S) : rd_bd b S0 e s (fo_op (b + 1) k v S) := by
  obtain ⟨h1, h2⟩ := nd_op_out (b + 1) k v S
  exact rd_bd_t hb (fun a ha => h1 a (by omega)) h2 h
theorem rd_ap_h (hb : b = 11 ∨ b = 29) {v : Int32} (h : rd_h K b S0 i m sc ms S) : rd_h K b S0 i m sc ms (fo_ap (b + 1) k v S) := by
  obtain ⟨h1, h2⟩ := nd_ap_out (b + 1) k v S
  exact rd_h_t hb (fun a ha => h1 a (by omega)) h2 h
theorem rd_ap_b (hb : b = 11 ∨ b = 29) {v : Int32} (h : rd_bd b S0 e s S) : rd_bd b S0 e s (fo_ap (b + 1) k v S) := by
  obtain ⟨h1, h2⟩ := nd_ap_out (b + 1) k v S
  exact rd_bd_t hb (fun a ha => h1 a (by omega)) h2 h
/-- a leaf -/
theorem rd_leaf (hX : rd_X K V b S0) {M : List (Nat × Nat)} {v : Int32} {o : Nat} (h : rd_h K b S0 i m sc (rd_ms ms M) S1) (hc : S1.1 (b + 1) 6 = Int32.ofNat c) (hc2 : c < 1500) (hn : nd_g (b + 1) (fun x => x < c) S S1) (hk3 : ¬k = 3) (hk5 : ¬k = 5) (hM : ps_cl M = []) : rd_G K b S0 m sc ms c 1 S (tr_l k v o, M, 1, i, m) (Int32.ofNat c) (fo_op (b + 1) k v S1) := by
  obtain ⟨h1, h2, h3⟩ := nd_op (k := k) (v := v) (rd_L hX) hc hc2
  rw [if_neg hk3] at h3
  obtain ⟨o2, o4, o6, o10, o12, -⟩ := h3
  refine ⟨rd_op_h hX.1 h, h1, nd_trans hn (nd_mono (fun x hx => by omega) h2), c, rfl, ⟨Nat.le_refl _, by show c < c + 1; omega, o2, o4, o6, fun j _ hj => absurd hj (Nat.not_lt_zero _)⟩, o10, ?_, ?_⟩
  · rw [o12]
    show _ = Int32.ofNat (m - m)
    rw [Nat.sub_self]
  · rw [hM]
    exact nd_c_1 (by rw [o2]; exact hk5)
theorem rd_num (hX : rd_X K V b S0) {s : Int32} (h : rd_h K b S0 i m sc ms S) (hc : S.1 (b + 1) 6 = Int32.ofNat c) (hci : c ≤ i) : ∃ x S', fn_Reader_takeNumber s S = some (x, S') ∧ rd_R K b S0 m sc ms c 1 S (ps_num K V s i m) x S' := by
  unfold fn_Reader_takeNumber ps_num
  rw [fo_value, wd_c_s, fo_takeKind, wd_d_s]
  cases q : ps_take K 1 i with
  | error e =>
    have hb := rd_tk_er hX h q
    rw [rd_r2 hX hb.1, if_pos (rd_t2 hX), fo_open, wd_c_s]
    exact ⟨_, _, rfl, rd_op_b hX.1 hb⟩
  | ok j =>
    obtain ⟨q1, q2, -, -⟩ := ps_take_ok q
    have hg := rd_tk_ok hX h q
    rw [rd_r2 hX hg.1, if_pos (rd_t2 hX), fo_open, wd_c_s, rd_tk_c hX.1, hc, h.2.2.2.1, rd_val hX h.1 (by omega) (Or.inl q1)]
    exact ⟨_, _, rfl, rd_leaf hX (M := []) hg (by rw [rd_tk_c hX.1]; exact hc) (by omega) (rd_tk_nd hX.1) (by decide) (by decide) rfl⟩
theorem rd_name (hX : rd_X K V b S0) {o : Nat} (h : rd_h K b S0 i m sc ms S) (hio : i = o + 1) (ho : K o = 2) (hc : S.1 (b + 1) 6 = Int32.ofNat c) (hci : c ≤ o) : ∃ x S', fn_Reader_nameAlone (Int32.ofNat o) S = some (x, S') ∧ rd_G K b S0 m sc ms c 1 S (ps_name V sc o i m) x S' := by
  have hi := h.2.1
  have hl : sc.length ≤ 16 := by have := h.2.2.2.2.2.2.2.1; have := h.2.2.2.2.2.2.2.2.2.1; omega
  obtain ⟨w, w1, w2⟩ := rd_look (S := S) (x := V o) sc wd_F hl (by rw [show wd_F = 1000000 from rfl]; omega) h.2.2.2.2.2.2.2.2.2.2.1
  have w1 : fn_LongRow_lastOf 50 (V o) (Int32.ofNat sc.length) S = some (w, S) := w1
  have h38 : ∀ (l : Int32) (S2 : wd_S), of_f (rd_W b) S0 S2 → S2.1 (b + 1) 6 = Int32.ofNat c → fn_Reader_nameAlone_38 l S2 = some (Int32.ofNat c, fo_op (b + 1) 2 (ro_at 52 l S2) S2) := by
    intro l S2 h1 h2
    unfold fn_Reader_nameAlone_38
    rw [rd_r2 hX h1, if_pos (rd_t2 hX), ro_at_ok, wd_c_s, fo_open, wd_c_s, h2]
  unfold fn_Reader_nameAlone ps_name
  rw [fo_value, wd_c_s, rd_val hX h.1 (by omega) (Or.inr ho), h.2.2.2.2.2.2.2.2.1, w1, wd_c_s]
  rcases w2 with ⟨p1, rfl⟩ | ⟨u, j, p1, rfl, hj, p2, hu⟩
  · rw [if_pos rfl, p1, h.2.2.2.2.2.2.2.2.2.2.2]
    have e0 : ∀ S2 : wd_S, ro_at 52 (-1) S2 = 0 := fun S2 => if_pos (Or.inl (by decide))
    by_cases hm : ms = -1
    · rw [if_pos hm]
      simp only [wd_b]
      have hg : rd_h K b S0 i m sc (rd_ms ms [(o, 0)]) (wd_i S 47 12 (Int32.ofNat o)) := by
        obtain ⟨a1, a2, a3, a4, a5, a6, a7, a8, a9, a10, a11, a12⟩ := h
        refine ⟨of_i (Or.inl rfl) a1, a2, a3, ?_, ?_, ?_, ?_, a8, ?_, a10, rd_sc_o (S := S) sc (fun m _ => ⟨rfl, fr_ne (by omega)⟩) a11, ?_⟩
        · rw [fr_ne (by omega)]; exact a4
        · rw [fr_ne (by omega)]; exact a5
        · rw [fr_ne (by omega)]; exact a6
        · rw [fr_ne (by omega)]; exact a7
        · rw [fr_ne (by omega)]; exact a9
        · rw [fr_eq]
          exact (if_pos ⟨rfl, hm⟩).symm
      have hb := hX.1
      have hc2 : (wd_i S 47 12 (Int32.ofNat o)).1 (b + 1) 6 = Int32.ofNat c := by rw [fr_ne (by omega)]; exact hc
      rw [h38 _ _ hg.1 hc2, e0]
      exact ⟨_, _, rfl, rd_leaf hX hg hc2 (by omega) (nd_rows (fun a h1 h2 => fr_row _ (by omega))) (by decide) (by decide) rfl⟩
    · rw [if_neg hm, h38 _ _ h.1 hc, e0]
      have hg : rd_h K b S0 i m sc (rd_ms ms [(o, 0)]) S := by
        rw [show rd_ms ms [(o, 0)] = ms from if_neg (fun z => hm z.2)]
        exact h
      exact ⟨_, _, rfl, rd_leaf hX hg hc (by omega) nd_refl (by decide) (by decide) rfl⟩
  · rw [if_neg (fun z => by have := congrArg Int32.toInt z; rw [im_i (by omega)] at this; exact absurd this (by show ¬(j : Int) = -1; omega)), p1, h38 _ _ h.1 hc, ro_an (L := 16) rfl hj, p2]
    exact ⟨_, _, rfl, rd_leaf hX (M := []) h hc (by omega) nd_refl (by decide) (by decide) rfl⟩
end Rd3
