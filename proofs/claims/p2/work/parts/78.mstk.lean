/-! The reference's stacks: tasks, what was made, nodes. -/
section Ms
variable {S S' : wd_S} {t k c : Nat} {x y : Int32}
theorem ms_in {m L : Nat} (h : m < L) (hL : L < 2147483648) : ¬(Int32.ofNat m < 0 ∨ L ≤ (Int32.ofNat m).toNatClampNeg) := by
  rw [im_t (by omega)]
  rintro (q | q)
  · exact im_neg (by omega) q
  · omega
def ms_p (t : Nat) (x y : Int32) (S : wd_S) : wd_S := wd_i (wd_i (wd_i S 152 t x) 153 t y) 135 35 (Int32.ofNat (t + 1))
theorem ms_push (h : S.1 135 35 = Int32.ofNat t) (ht : t < 4000) : fn_Mo_push x y S = some (ms_p t x y S) := by
  unfold fn_Mo_push fn_Mo_push_40 ms_p
  simp only [wd_b]
  have e1 : (wd_i S 152 t x).1 135 35 = Int32.ofNat t := by rw [fr_ne (by omega)]; exact h
  have e2 : (wd_i (wd_i S 152 t x) 153 t y).1 135 35 = Int32.ofNat t := by rw [fr_ne (by omega)]; exact e1
  rw [h, if_pos ((mo_lt (m := 4000) (b := 4000) (by omega) (by omega) rfl).mpr ht), if_neg (ms_in ht (by decide)), im_t (by omega), e1, if_neg (ms_in ht (by decide)), im_t (by omega), e2, im_s]
def ms_k (k : Nat) (x : Int32) (S : wd_S) : wd_S := wd_i (wd_i S 155 k x) 135 37 (Int32.ofNat (k + 1))
theorem ms_keep (h : S.1 135 37 = Int32.ofNat k) (hk : k < 1600) : fn_Mo_keep x S = some (ms_k k x S) := by
  unfold fn_Mo_keep fn_Mo_keep_30 ms_k
  simp only [wd_b]
  have e1 : (wd_i S 155 k x).1 135 37 = Int32.ofNat k := by rw [fr_ne (by omega)]; exact h
  rw [h, if_pos ((mo_lt (m := 1600) (b := 1600) (by omega) (by omega) rfl).mpr hk), if_neg (ms_in hk (by decide)), im_t (by omega), e1, im_s]
theorem ms_last (h : S.1 135 37 = Int32.ofNat (k + 1)) (hk : k < 1600) : fn_Mo_last S = some (S.1 155 k, wd_i S 135 37 (Int32.ofNat k)) := by
  unfold fn_Mo_last fn_Mo_last_17
  simp only [wd_b]
  rw [h, if_pos (show (0 : Int32) < Int32.ofNat (k + 1) from (im_lt (m := 0) (n := k + 1) (by omega) (by omega)).mpr (by omega)), show Int32.ofNat (k + 1) - (1 : Int32) = Int32.ofNat k from im_p k, fr_eq, if_neg (ms_in hk (by decide)), im_t (by omega), fr_ne (by omega)]
def ms_n (c : Nat) (x y : Int32) (S : wd_S) : wd_S := wd_i (wd_i (wd_i S 135 27 (Int32.ofNat (c + 1))) 143 c x) 147 c y
theorem ms_node (h : S.1 135 27 = Int32.ofNat c) (hc : c < 3003) : fn_Mo_node x y S = some (Int32.ofNat c, ms_n c x y S) := by
  unfold fn_Mo_node fn_Mo_node_20 ms_n
  simp only [wd_b]
  rw [h, if_pos ((mo_lt (m := 3003) (b := 3003) (by omega) (by omega) rfl).mpr hc), if_neg (ms_in (show c < 15010 by omega) (by decide)), if_neg (ms_in (show c < 15010 by omega) (by decide)), im_s, im_t (by omega)]
end Ms
/-- what the reading of an E may write, with t tasks, k made, u waiting, c nodes, l arguments laid, name m of function f -/
def mp_W (f m t k u c l H a b : Nat) : Prop := (a = 135 ∧ ((3 ≤ b ∧ b ≤ 10) ∨ b = 27 ∨ b = 28 ∨ b = 30 ∨ b = 35 ∨ b = 37 ∨ b = 38)) ∨ (a = 139 ∧ b = f) ∨ (a = 142 ∧ 16 * f + m ≤ b ∧ b < 16 * f + 16) ∨ (143 ≤ a ∧ a ≤ 148 ∧ c ≤ b ∧ b < H) ∨ (a = 149 ∧ l ≤ b ∧ b < H) ∨ (a = 151 ∧ u ≤ b) ∨ (a = 152 ∧ t ≤ b) ∨ (a = 153 ∧ t ≤ b) ∨ (a = 155 ∧ k ≤ b)
theorem mp_le {H f m t k u c l m' t' k' u' c' l' : Nat} (h1 : m ≤ m') (h2 : t ≤ t') (h3 : k ≤ k') (h4 : u ≤ u') (h5 : c ≤ c') (h6 : l ≤ l') : ∀ a b, mp_W f m' t' k' u' c' l' H a b → mp_W f m t k u c l H a b := by
  intro a b h
  rcases h with h | h | h | h | h | h | h | h | h
  · exact Or.inl h
  · exact Or.inr (Or.inl h)
  · exact Or.inr (Or.inr (Or.inl ⟨h.1, by omega, by omega⟩))
  · exact Or.inr (Or.inr (Or.inr (Or.inl ⟨h.1, h.2.1, by omega, by omega⟩)))
  · exact Or.inr (Or.inr (Or.inr (Or.inr (Or.inl ⟨h.1, by omega, by omega⟩))))
  · exact Or.inr (Or.inr (Or.inr (Or.inr (Or.inr (Or.inl ⟨h.1, by omega⟩)))))
  · exact Or.inr (Or.inr (Or.inr (Or.inr (Or.inr (Or.inr (Or.inl ⟨h.1, by omega⟩))))))
  · exact Or.inr (Or.inr (Or.inr (Or.inr (Or.inr (Or.inr (Or.inr (Or.inl ⟨h.1, by omega⟩)))))))
  · exact Or.inr (Or.inr (Or.inr (Or.inr (Or.inr (Or.inr (Or.inr (Or.inr ⟨h.1, by omega⟩)))))))
/-- a node of a tree as it stands in the reference once it is read; R for its parts, which lie one behind the other -/
def mr_b (T : Nat → Int32) (n f : Nat) (S : wd_S) (lo hi al ah nl nh : Nat) (R : Nat → Nat → Nat → tr_T → Prop) (y : Nat) (t : tr_T) : Prop := (tr_k t = 1 ∧ tr_a t = 0 ∧ S.1 143 y = 5 ∧ S.1 144 y = tr_v t) ∨ (tr_k t = 2 ∧ tr_a t = 0 ∧ S.1 143 y = 7 ∧ S.2.1 148 y = tk_V T n (tr_o t) ∧ S.1 147 y = Int32.ofNat (tk_p T n (tr_o t))) ∨ (tr_k t = 3 ∧ tr_a t = 2 ∧ S.1 143 y = 3 ∧ S.1 146 y = tr_v t ∧ (∃ s, tr_v t = Int32.ofNat s ∧ nl ≤ s ∧ s < nh ∧ S.2.1 142 (16 * f + s) = tk_V T n (tr_o t)) ∧ ∃ z0 z1 a0 b0 b1, S.1 144 y = Int32.ofNat z0 ∧ S.1 145 y = Int32.ofNat z1 ∧ y < a0 ∧ R a0 b0 z0 (tr_sub t 0) ∧ R b0 b1 z1 (tr_sub t 1) ∧ b1 ≤ hi) ∨ (tr_k t = 4 ∧ tr_a t = 3 ∧ S.1 143 y = 2 ∧ ∃ z0 z1 z2 a0 b0 b1 b2, S.1 144 y = Int32.ofNat z0 ∧ S.1 145 y = Int32.ofNat z1 ∧ S.1 146 y = Int32.ofNat z2 ∧ y < a0 ∧ R a0 b0 z0 (tr_sub t 0) ∧ R b0 b1 z1 (tr_sub t 1) ∧ R b1 b2 z2 (tr_sub t 2) ∧ b2 ≤ hi) ∨ (tr_k t = 5 ∧ S.1 143 y = 8 ∧ S.2.1 148 y = tk_V T n (tr_o t) ∧ S.1 147 y = Int32.ofNat (tk_p T n (tr_o t)) ∧ tr_v t = Int32.ofNat (tr_o t) ∧ S.1 145 y = Int32.ofNat (tr_a t) ∧ ∃ g, ∃ rg : Nat → Nat, S.1 144 y = Int32.ofNat g ∧ al ≤ g ∧ g + tr_a t ≤ ah ∧ y < rg 0 ∧ rg (tr_a t) ≤ hi ∧ ∀ j, j < tr_a t → ∃ z, S.1 149 (g + j) = Int32.ofNat z ∧ R (rg j) (rg (j + 1)) z (tr_sub t j)) ∨ ((tr_k t = 6 ∨ tr_k t = 7 ∨ tr_k t = 8 ∨ tr_k t = 9 ∨ tr_k t = 10) ∧ tr_a t = 2 ∧ S.1 143 y = 1 ∧ S.1 146 y = lx_cv (tr_k t) ∧ ∃ z0 z1 a0 b0 b1, S.1 144 y = Int32.ofNat z0 ∧ S.1 145 y = Int32.ofNat z1 ∧ lo ≤ a0 ∧ R a0 b0 z0 (tr_sub t 0) ∧ R b0 b1 z1 (tr_sub t 1) ∧ b1 ≤ y)
/-- boundaries that grow -/
theorem mr_mono {rg : Nat → Nat} {a : Nat} (h : ∀ j, j < a → rg j < rg (j + 1)) : ∀ j, j ≤ a → rg 0 ≤ rg j ∧ rg j ≤ rg a := by
  have h1 : ∀ j, j ≤ a → rg 0 ≤ rg j := by
    intro j
    induction j with
    | zero => intro _; exact Nat.le_refl _
    | succ j ih => intro hj; have := ih (by omega); have := h j (by omega); omega
  have h2 : ∀ q j, j + q = a → rg j ≤ rg a := by
    intro q
    induction q with
    | zero => intro j hj; rw [show j = a by omega]; exact Nat.le_refl _
    | succ q ih => intro j hj; have := ih (j + 1) (by omega); have := h j (by omega); omega
  exact fun j hj => ⟨h1 j hj, h2 (a - j) j (by omega)⟩
theorem mr_b_m {T : Nat → Int32} {n f lo hi lo' hi' al ah al' ah' nl nh nl' nh' y : Nat} {S S' : wd_S} {R R' : Nat → Nat → Nat → tr_T → Prop} {t : tr_T} (hRb : ∀ a b z t, R a b z t → a ≤ z ∧ z < b) (hR : ∀ a b z t, lo ≤ a → b ≤ hi → R a b z t → R' a b z t) (hlo : lo' ≤ lo) (hhi : hi ≤ hi') (hy1 : lo ≤ y) (hy2 : y < hi) (ha : al' ≤ al) (hh : ah ≤ ah') (hl : nl' ≤ nl) (hm : nh ≤ nh') (h1 : S'.1 143 y = S.1 143 y ∧ S'.1 144 y = S.1 144 y ∧ S'.1 145 y = S.1 145 y ∧ S'.1 146 y = S.1 146 y ∧ S'.1 147 y = S.1 147 y ∧ S'.2.1 148 y = S.2.1 148 y) (h2 : ∀ x, al ≤ x → x < ah → S'.1 149 x = S.1 149 x) (h4 : ∀ x, nl ≤ x → x < nh → S'.2.1 142 (16 * f + x) = S.2.1 142 (16 * f + x)) (h : mr_b T n f S lo hi al ah nl nh R y t) : mr_b T n f S' lo' hi' al' ah' nl' nh' R' y t := by
  obtain ⟨a1, a2, a3, a4, a5, a6⟩ := h1
  unfold mr_b at h ⊢
  rw [a1, a2, a3, a4, a5, a6]
  rcases h with h3 | h3 | h3 | h3 | h3 | h3
  · exact Or.inl h3
  · exact Or.inr (Or.inl h3)
  · obtain ⟨b1, b2, b3, b4, ⟨s, s1, s2, s3, s4⟩, z0, z1, p0, p1, p2, c1, c2, c3, c4, c5, c6⟩ := h3
    have w1 := hRb _ _ _ _ c4
    have w2 := hRb _ _ _ _ c5
    exact Or.inr (Or.inr (Or.inl ⟨b1, b2, b3, b4, ⟨s, s1, by omega, by omega, (h4 s s2 s3).trans s4⟩, z0, z1, p0, p1, p2, c1, c2, c3, hR _ _ _ _ (by omega) (by omega) c4, hR _ _ _ _ (by omega) (by omega) c5, by omega⟩))
  · obtain ⟨b1, b2, b3, z0, z1, z2, p0, p1, p2, p3, c1, c2, c3, c4, c5, c6, c7, c8⟩ := h3
    have w1 := hRb _ _ _ _ c5
    have w2 := hRb _ _ _ _ c6
    have w3 := hRb _ _ _ _ c7
    exact Or.inr (Or.inr (Or.inr (Or.inl ⟨b1, b2, b3, z0, z1, z2, p0, p1, p2, p3, c1, c2, c3, c4, hR _ _ _ _ (by omega) (by omega) c5, hR _ _ _ _ (by omega) (by omega) c6, hR _ _ _ _ (by omega) (by omega) c7, by omega⟩)))
  · obtain ⟨b1, b2, b3, b4, b5, b6, g, rg, c1, c2, c3, c4, c5, c6⟩ := h3
    have hmono : ∀ j, j < tr_a t → rg j < rg (j + 1) := fun j hj => by
      obtain ⟨z, -, d2⟩ := c6 j hj
      have := hRb _ _ _ _ d2
      omega
    have hmm := mr_mono hmono
    refine Or.inr (Or.inr (Or.inr (Or.inr (Or.inl ⟨b1, b2, b3, b4, b5, b6, g, rg, c1, by omega, by omega, c4, by omega, fun j hj => ?_⟩))))
    obtain ⟨z, d1, d2⟩ := c6 j hj
    have w1 := hmm j (by omega)
    have w2 := hmm (j + 1) (by omega)
    exact ⟨z, (h2 (g + j) (by omega) (by omega)).trans d1, hR _ _ _ _ (by omega) (by omega) d2⟩
  · obtain ⟨b1, b2, b3, b4, z0, z1, p0, p1, p2, c1, c2, c3, c4, c5, c6⟩ := h3
    have w1 := hRb _ _ _ _ c4
    have w2 := hRb _ _ _ _ c5
    exact Or.inr (Or.inr (Or.inr (Or.inr (Or.inr ⟨b1, b2, b3, b4, z0, z1, p0, p1, p2, c1, c2, by omega, hR _ _ _ _ (by omega) (by omega) c4, hR _ _ _ _ (by omega) (by omega) c5, c6⟩))))
def mr_u (T : Nat → Int32) (n f : Nat) (S : wd_S) (al ah nl nh : Nat) : Nat → Nat → Nat → Nat → tr_T → Prop
  | 0 => fun _ _ _ _ => False
  | d + 1 => fun lo hi y t => lo ≤ y ∧ y < hi ∧ mr_b T n f S lo hi al ah nl nh (mr_u T n f S al ah nl nh d) y t
/-- a tree as it stands in the reference once it is read: its nodes, arguments and names' places -/
def mr_t (T : Nat → Int32) (n f : Nat) (S : wd_S) (lo hi al ah nl nh : Nat) : Nat → Nat → tr_T → Prop := fun d y t => mr_u T n f S al ah nl nh d lo hi y t
theorem mr_u_b {T : Nat → Int32} {n f lo hi al ah nl nh d y : Nat} {S : wd_S} {t : tr_T} (h : mr_u T n f S al ah nl nh d lo hi y t) : lo ≤ y ∧ y < hi := by
  cases d with
  | zero => exact absurd h id
  | succ d => exact ⟨h.1, h.2.1⟩
/-- the same nodes, arguments and names -/
def mr_g (f lo hi al ah nl nh : Nat) (S S' : wd_S) : Prop := (∀ x, lo ≤ x → x < hi → S'.1 143 x = S.1 143 x ∧ S'.1 144 x = S.1 144 x ∧ S'.1 145 x = S.1 145 x ∧ S'.1 146 x = S.1 146 x ∧ S'.1 147 x = S.1 147 x ∧ S'.2.1 148 x = S.2.1 148 x) ∧ (∀ x, al ≤ x → x < ah → S'.1 149 x = S.1 149 x) ∧ ∀ x, nl ≤ x → x < nh → S'.2.1 142 (16 * f + x) = S.2.1 142 (16 * f + x)
theorem mr_u_m {T : Nat → Int32} {n f al ah nl nh al' ah' nl' nh' : Nat} {S S' : wd_S} (h3 : al' ≤ al) (h4 : ah ≤ ah') (h5 : nl' ≤ nl) (h6 : nh ≤ nh') : ∀ (d lo hi lo' hi' y : Nat) (t : tr_T), lo' ≤ lo → hi ≤ hi' → mr_g f lo hi al ah nl nh S S' → mr_u T n f S al ah nl nh d lo hi y t → mr_u T n f S' al' ah' nl' nh' d lo' hi' y t := by
  intro d
  induction d with
  | zero => intro lo hi lo' hi' y t _ _ _ h; exact h
  | succ d ih =>
    intro lo hi lo' hi' y t h1 h2 h ht
    obtain ⟨k1, k2, k3⟩ := ht
    refine ⟨by omega, by omega, mr_b_m (fun a b z t hz => mr_u_b hz) (fun a b z t ha hb hz => ih a b a b z t (Nat.le_refl _) (Nat.le_refl _) ⟨fun x x1 x2 => h.1 x (by omega) (by omega), h.2⟩ hz) h1 h2 k1 k2 h3 h4 h5 h6 (h.1 y k1 k2) h.2.1 h.2.2 k3⟩
theorem mr_t_m {T : Nat → Int32} {n f lo hi al ah nl nh lo' hi' al' ah' nl' nh' : Nat} {S S' : wd_S} (h1 : lo' ≤ lo) (h2 : hi ≤ hi') (h3 : al' ≤ al) (h4 : ah ≤ ah') (h5 : nl' ≤ nl) (h6 : nh ≤ nh') (h : mr_g f lo hi al ah nl nh S S') (d y : Nat) (t : tr_T) (ht : mr_t T n f S lo hi al ah nl nh d y t) : mr_t T n f S' lo' hi' al' ah' nl' nh' d y t := mr_u_m h3 h4 h5 h6 d lo hi lo' hi' y t h1 h2 h ht
theorem mr_u_s {T : Nat → Int32} {n f al ah nl nh : Nat} {S : wd_S} : ∀ (d lo hi y : Nat) (t : tr_T), mr_u T n f S al ah nl nh d lo hi y t → mr_u T n f S al ah nl nh (d + 1) lo hi y t := by
  intro d
  induction d with
  | zero => intro lo hi y t h; exact absurd h id
  | succ d ih =>
    intro lo hi y t ht
    obtain ⟨k1, k2, k3⟩ := ht
    exact ⟨k1, k2, mr_b_m (fun a b z t hz => mr_u_b hz) (fun a b z t _ _ hz => ih a b z t hz) (Nat.le_refl _) (Nat.le_refl _) k1 k2 (Nat.le_refl _) (Nat.le_refl _) (Nat.le_refl _) (Nat.le_refl _) ⟨rfl, rfl, rfl, rfl, rfl, rfl⟩ (fun _ _ _ => rfl) (fun _ _ _ => rfl) k3⟩
theorem mr_t_s {T : Nat → Int32} {n f lo hi al ah nl nh : Nat} {S : wd_S} (d y : Nat) (t : tr_T) (h : mr_t T n f S lo hi al ah nl nh d y t) : mr_t T n f S lo hi al ah nl nh (d + 1) y t := mr_u_s d lo hi y t h
theorem mr_t_le {T : Nat → Int32} {n f lo hi al ah nl nh d e y : Nat} {S : wd_S} {t : tr_T} (h : mr_t T n f S lo hi al ah nl nh d y t) (hde : d ≤ e) : mr_t T n f S lo hi al ah nl nh e y t := by
  induction hde with
  | refl => exact h
  | step _ ih => exact mr_t_s _ _ _ ih
theorem mr_t_b {T : Nat → Int32} {n f lo hi al ah nl nh d y : Nat} {S : wd_S} {t : tr_T} (h : mr_t T n f S lo hi al ah nl nh d y t) : lo ≤ y ∧ y < hi := mr_u_b h
/-- what lies below what an E may write -/
theorem mr_g_W {H f m t k u c l lo hi al ah nl nh : Nat} {S S' : wd_S} (h : of_f (mp_W f m t k u c l H) S S') (h1 : hi ≤ c) (h2 : ah ≤ l) (h3 : nh ≤ m) : mr_g f lo hi al ah nl nh S S' := by
  have hn : ∀ a x, 143 ≤ a → a ≤ 148 → x < c → ¬mp_W f m t k u c l H a x := fun a x y1 y2 y3 => by
    rintro (z | z | z | z | z | z | z | z | z) <;> omega
  refine ⟨fun x _ hx => ⟨h.1 _ _ (hn 143 x (by omega) (by omega) (by omega)), h.1 _ _ (hn 144 x (by omega) (by omega) (by omega)), h.1 _ _ (hn 145 x (by omega) (by omega) (by omega)), h.1 _ _ (hn 146 x (by omega) (by omega) (by omega)), h.1 _ _ (hn 147 x (by omega) (by omega) (by omega)), h.2.1 _ _ (hn 148 x (by omega) (by omega) (by omega))⟩, fun x _ hx => h.1 _ _ ?_, fun x _ hx => h.2.1 _ _ ?_⟩
  · rintro (z | z | z | z | z | z | z | z | z) <;> omega
  · rintro (z | z | z | z | z | z | z | z | z) <;> omega
