/-! The class's maker: its state; rests in its rows. -/
def cm_W (v a k : Nat) : Prop := cx_W a k ∨ (a = 115 ∧ (k = 8 ∨ k = 9 ∨ k = 10)) ∨ a = 117 ∨ a = 119 ∨ a = 121 ∨ (a = v + 1 ∧ k = 3) ∨ (v + 2 ≤ a ∧ a ≤ v + 14) ∨ a = v + 18 ∨ a = v + 20 ∨ a = v + 22 ∨ a = v + 24
def cm_X (b v : Nat) (pg : pg_T) (S0 : wd_S) : Prop := (b = 11 ∨ b = 29) ∧ (v = 54 ∨ v = 79) ∧ S0.2.2.1 115 1 = b ∧ S0.2.2.1 115 2 = b + 1 ∧ S0.2.2.1 115 3 = v ∧ S0.2.2.1 115 4 = v + 2 ∧ cl_P b 1500 pg S0 ∧ pg.length ≤ 48 ∧ ∀ f, pg_n pg f ≤ 4
def cm_v (v : Nat) (pg : pg_T) (vs : List mk_V) (S : wd_S) : Prop := S.1 (v + 1) 3 = Int32.ofNat vs.length ∧ mk_ok pg vs ∧ ∀ j, (hj : j < vs.length) → S.1 (v + 20) j = Int32.ofNat vs[j].1 ∧ S.1 (v + 22) j = Int32.ofNat vs[j].2.1 ∧ S.1 (v + 18) j = Int32.ofNat (mk_lf vs[j].2.1 (pg_n pg vs[j].1)) ∧ ∀ i, i < 4 → S.1 (v + 24) (4 * j + i) = vs[j].2.2 i
def cm_e (N : mk_N) (S : wd_S) : Prop := ∀ s q, N s = some q → s < 16 ∧ S.1 117 s = (if q.1 = true then 1 else 0) ∧ S.1 119 s = q.2
def cm_h (b v : Nat) (pg : pg_T) (S0 : wd_S) (N : mk_N) (s : mk_S) (c : Nat) (S : wd_S) : Prop := of_r (cm_W v) cx_R S0 S ∧ S.1 115 8 = Int32.ofNat s.2.1 ∧ S.1 115 9 = Int32.ofNat s.2.2.1 ∧ S.1 115 10 = Int32.ofNat s.2.2.2 ∧ S.1 (v + 2) 6 = Int32.ofNat c ∧ c ≤ s.2.1 ∧ s.2.1 ≤ 1000 ∧ cm_e N S ∧ cm_v v pg s.1 S
/-- what comes of an EXPRESSION: nodes from c on, g gone through before -/
def cm_G (b v : Nat) (pg : pg_T) (S0 : wd_S) (r c g : Nat) (S : wd_S) (q : mk_O) (z c' : Nat) (S' : wd_S) : Prop := cm_h b v pg S0 q.2.1 q.2.2 c' S' ∧ c' + g ≤ q.2.2.2.1 + c ∧ nd_g (v + 2) (fun x => x < c) S S' ∧ nd_t (v + 2) S' c c' r z q.1.1 ∧ S'.1 (v + 2 + 10) z = Int32.ofNat q.1.2.1 ∧ S'.1 (v + 2 + 12) z = Int32.ofNat q.1.2.2 ∧ (tr_k q.1.1 = 1 → q.1.2 = (1, 0))
def cm_R (b v : Nat) (pg : pg_T) (S0 : wd_S) (r c g : Nat) (S : wd_S) (x : Except mk_E mk_O) (o : Option ((Int32 ⊕ String) × wd_S)) : Prop := match x with
  | .error none => True
  | .error (some _) => ∃ S1, o = some (.inr "java/lang/UnsupportedOperationException", wd_n S1) ∧ of_r (cm_W v) cx_R S0 S1
  | .ok q => ∃ z c' S', o = some (.inl (Int32.ofNat z), S') ∧ cm_G b v pg S0 r c g S q z c' S'
def cm_S (b v : Nat) (pg : pg_T) (S0 : wd_S) (r : Nat) : Prop := ∀ (N : mk_N) (s : mk_S) (c y : Nat) (t : tr_T) (d : Nat) (S : wd_S), cm_h b v pg S0 N s c S → nd_t (b + 1) S0 0 1500 d y t → cm_R b v pg S0 r c s.2.1 S (mk pg r N s t) (rc_Maker_become (2 * r + 8) 93 (Int32.ofNat y) (Int32.ofNat (96 - r)) S)
section Cm
variable {b v : Nat} {pg : pg_T} {S0 S S' S1 S2 : wd_S} {N N' : mk_N} {s s' : mk_S} {c c' y z d r g : Nat} {t : tr_T}
theorem cm_vv (hX : cm_X b v pg S0) : tp_t v = (0, 9) ∧ tp_t (v + 1) = (0, 0) ∧ tp_t (v + 2) = (0, 8) ∧ nd_L (v + 2) 1000 ∧ (tp_t (v + 16)).2 = 78 ∧ (tp_t (v + 18)).2 = 78 ∧ (tp_t (v + 20)).2 = 78 ∧ (tp_t (v + 22)).2 = 78 ∧ (tp_t (v + 24)).2 = 312 := by
  rcases hX.2.1 with h | h <;> subst h <;> exact ⟨rfl, rfl, rfl, ⟨rfl, rfl, rfl, rfl, rfl, rfl⟩, rfl, rfl, rfl, rfl, rfl⟩
theorem cm_bb (hX : cm_X b v pg S0) : tp_t b = (0, 0) ∧ tp_t (b + 1) = (0, 8) ∧ nd_L (b + 1) 1500 ∧ (tp_t (b + 15)).2 = 48 ∧ (tp_t (b + 17)).2 = 48 := by
  rcases hX.1 with h | h <;> subst h <;> exact ⟨rfl, rfl, ⟨rfl, rfl, rfl, rfl, rfl, rfl⟩, rfl, rfl⟩
theorem cm_cb (hX : cm_X b v pg S0) : cb_ok b 1500 48 := by
  obtain ⟨h1, h2, h3, h4, -⟩ := cm_bb hX
  exact ⟨by have := hX.1; omega, h1, h2, h3, h4, by omega, by omega⟩
theorem cm_117 : (tp_t (116 + 1)).2 = 16 := rfl
theorem cm_119 : (tp_t (118 + 1)).2 = 16 := rfl
theorem cm_121 : (tp_t (120 + 1)).2 = 4 := rfl
/-- the text's rows and the references stay -/
theorem cm_row (hX : cm_X b v pg S0) (ho : of_r (cm_W v) cx_R S0 S) : ∀ a, a < 54 → S.1 a = S0.1 a := fun a ha => funext fun k => ho.1 a k (by unfold cm_W cx_W; have := hX.2.1; omega)
theorem cm_r1 (hX : cm_X b v pg S0) (ho : of_r (cm_W v) cx_R S0 S) : S.2.2.1 115 1 = b := by rw [ho.2.2.1 115 1 (by unfold cx_R; omega)]; exact hX.2.2.1
theorem cm_r2 (hX : cm_X b v pg S0) (ho : of_r (cm_W v) cx_R S0 S) : S.2.2.1 115 2 = b + 1 := by rw [ho.2.2.1 115 2 (by unfold cx_R; omega)]; exact hX.2.2.2.1
theorem cm_r3 (hX : cm_X b v pg S0) (ho : of_r (cm_W v) cx_R S0 S) : S.2.2.1 115 3 = v := by rw [ho.2.2.1 115 3 (by unfold cx_R; omega)]; exact hX.2.2.2.2.1
theorem cm_r4 (hX : cm_X b v pg S0) (ho : of_r (cm_W v) cx_R S0 S) : S.2.2.1 115 4 = v + 2 := by rw [ho.2.2.1 115 4 (by unfold cx_R; omega)]; exact hX.2.2.2.2.2.1
theorem cm_ov (hv : v = 54 ∨ v = 79) {W : Nat → Nat → Prop} (ho : of_r W cx_R S S') (hW : ∀ a k, W a k → ¬((a = v + 1 ∧ k = 3) ∨ a = v + 18 ∨ a = v + 20 ∨ a = v + 22 ∨ a = v + 24)) (h : cm_v v pg s.1 S) : cm_v v pg s.1 S' := by
  obtain ⟨h1, h2, h3⟩ := h
  refine ⟨by rw [ho.1 (v + 1) 3 (fun q => hW _ _ q (by omega))]; exact h1, h2, fun j hj => ?_⟩
  obtain ⟨k1, k2, k3, k4⟩ := h3 j hj
  exact ⟨by rw [ho.1 (v + 20) j (fun q => hW _ _ q (by omega))]; exact k1, by rw [ho.1 (v + 22) j (fun q => hW _ _ q (by omega))]; exact k2, by rw [ho.1 (v + 18) j (fun q => hW _ _ q (by omega))]; exact k3, fun i hi => by rw [ho.1 (v + 24) (4 * j + i) (fun q => hW _ _ q (by omega))]; exact k4 i hi⟩
theorem cm_oe {W : Nat → Nat → Prop} {R : Nat → Nat → Prop} (ho : of_r W R S S') (hW : ∀ k, ¬W 117 k ∧ ¬W 119 k) (h : cm_e N S) : cm_e N S' := fun i q hi => by
  obtain ⟨h1, h2, h3⟩ := h i q hi
  exact ⟨h1, by rw [ho.1 117 i (hW i).1]; exact h2, by rw [ho.1 119 i (hW i).2]; exact h3⟩
/-- writes into the rests' trees -/
theorem cm_tw (hX : cm_X b v pg S0) (o : of_r (fun a k => v + 2 ≤ a ∧ a ≤ v + 14) cx_R S S') (h6 : S'.1 (v + 2) 6 = Int32.ofNat c') (hc : c' ≤ s.2.1) (h : cm_h b v pg S0 N s c S) : cm_h b v pg S0 N s c' S' := by
  obtain ⟨a1, a2, a3, a4, a5, a6, a7, a8, a9⟩ := h
  have hv := hX.2.1
  have e : ∀ k, S'.1 115 k = S.1 115 k := fun k => o.1 115 k (by omega)
  exact ⟨ofr_trans a1 ⟨fun a k q => o.1 a k (fun z => q (by unfold cm_W; omega)), fun a k q => o.2.1 a k (fun z => q (by unfold cm_W; omega)), o.2.2.1, o.2.2.2⟩, by rw [e]; exact a2, by rw [e]; exact a3, by rw [e]; exact a4, h6, hc, a7, cm_oe o (fun k => by omega) a8, cm_ov hv o (fun a k q => by omega) a9⟩
theorem cm_t (hX : cm_X b v pg S0) (h1 : ∀ a, a < v + 2 ∨ v + 14 < a → S'.1 a = S.1 a) (h2 : S'.2 = S.2) (h6 : S'.1 (v + 2) 6 = Int32.ofNat c') (hc : c' ≤ s.2.1) (h : cm_h b v pg S0 N s c S) : cm_h b v pg S0 N s c' S' := cm_tw hX ⟨fun a k q => by rw [h1 a (by omega)], fun a k _ => by rw [h2], fun a k _ => by rw [h2], by rw [h2]⟩ h6 hc h
/-- a part is found -/
theorem cm_sub (hX : cm_X b v pg S0) (ho : of_r (cm_W v) cx_R S0 S) (ht : nd_t (b + 1) S0 0 1500 d y t) {j : Nat} (hj : j < 4) (hja : j < tr_a t) : ∃ z e, fn_Trees_part (b + 1) (Int32.ofNat y) (Int32.ofNat j) S = some (Int32.ofNat z, S) ∧ nd_t (b + 1) S0 0 1500 e z (tr_sub t j) := by
  cases d with
  | zero => exact absurd ht id
  | succ d =>
    obtain ⟨h1, h2, h3, h4, h5, h6⟩ := ht
    obtain ⟨z, e, hz⟩ := h6 j hj hja
    have hb := hX.1
    exact ⟨z, d, ct_part (cm_cb hX) h2 hj (by rw [cm_row hX ho (b + 9) (by omega)]; exact e), hz⟩
theorem cm_node (hX : cm_X b v pg S0) (ho : of_r (cm_W v) cx_R S0 S) (ht : nd_t (b + 1) S0 0 1500 d y t) : fn_Trees_kind (b + 1) (Int32.ofNat y) S = some (tr_k t, S) ∧ fn_Trees_value (b + 1) (Int32.ofNat y) S = some (tr_v t, S) ∧ fn_Trees_parts (b + 1) (Int32.ofNat y) S = some (Int32.ofNat (tr_a t), S) := by
  cases d with
  | zero => exact absurd ht id
  | succ d =>
    obtain ⟨h1, h2, h3, h4, h5, h6⟩ := ht
    have hb := hX.1
    refine ⟨?_, ?_, ?_⟩
    · rw [ct_kind (cm_cb hX) h2, cm_row hX ho (b + 3) (by omega), show b + 3 = b + 1 + 2 by omega, h3]
    · rw [ct_value (cm_cb hX) h2, cm_row hX ho (b + 5) (by omega), show b + 5 = b + 1 + 4 by omega, h4]
    · rw [ct_parts (cm_cb hX) h2, cm_row hX ho (b + 7) (by omega), show b + 7 = b + 1 + 6 by omega, h5]
/-- of a rest: whether it is a NUMBER, its number -/
theorem cm_isn (hX : cm_X b v pg S0) (ho : of_r (cm_W v) cx_R S0 S) (hz : z < 1000) : fn_Maker_isNumber (Int32.ofNat z) S = some (if S.1 (v + 2 + 2) z = 1 then 1 else 0, S) := by
  obtain ⟨-, -, t8, ⟨g2, -⟩, -⟩ := cm_vv hX
  unfold fn_Maker_isNumber fn_Maker_isNumber_17
  rw [cm_r4 hX ho, if_pos t8, fo_tkind, wd_c_s, ro_an (r := v + 2 + 1) g2 hz]
  by_cases e : S.1 (v + 2 + 1 + 1) z = 1
  · rw [if_pos e, if_pos fo_b1, if_pos e]
  · rw [if_neg e, if_pos fo_b0, if_neg e]
theorem cm_vl (hX : cm_X b v pg S0) (hz : z < 1000) : fn_Trees_value (v + 2) (Int32.ofNat z) S = some (S.1 (v + 2 + 4) z, S) := by
  obtain ⟨-, -, t8, ⟨g2, g4, -⟩, -⟩ := cm_vv hX
  rw [fo_tvalue, ro_an (r := v + 2 + 3) g4 hz]
/-- an EXPRESSION of a REST is put up -/
theorem cm_op (hX : cm_X b v pg S0) (h : cm_h b v pg S0 N s c S) (hc : c < s.2.1) {k x : Int32} : fn_Trees_open (v + 2) k x S = some (Int32.ofNat c, fo_op (v + 2) k x S) ∧ cm_h b v pg S0 N s (c + 1) (fo_op (v + 2) k x S) ∧ nd_g (v + 2) (fun x => x ≠ c) S (fo_op (v + 2) k x S) ∧ nd_o (v + 2) (fo_op (v + 2) k x S) c k x [] 1 (if k = 3 then 1 else 0) := by
  obtain ⟨-, -, t8, gL, -⟩ := cm_vv hX
  have h6 := h.2.2.2.2.1
  have h7 := h.2.2.2.2.2.2.1
  obtain ⟨n1, n2, n3⟩ := nd_op (k := k) (v := x) gL h6 (by omega)
  obtain ⟨w1, w2⟩ := nd_op_out (v + 2) k x S
  exact ⟨by rw [fo_open, h6], cm_t hX (fun a ha => w1 a (by omega)) w2 n1 (by omega) h, n2, n3⟩
/-- a part more -/
theorem cm_ap (hX : cm_X b v pg S0) (h : cm_h b v pg S0 N s c S) {k x : Int32} {zs : List Nat} {sz lt s2 l2 : Nat} (hy : y < c) (hz : z < c) (hyz : y ≠ z) (hl : zs.length < 10) (ho : nd_o (v + 2) S y k x zs sz lt) (h10 : S.1 (v + 2 + 10) z = Int32.ofNat s2) (h12 : S.1 (v + 2 + 12) z = Int32.ofNat l2) : fn_Trees_append (v + 2) (Int32.ofNat y) (Int32.ofNat z) S = some (fo_ap (v + 2) (Int32.ofNat y) (Int32.ofNat z) S) ∧ cm_h b v pg S0 N s c (fo_ap (v + 2) (Int32.ofNat y) (Int32.ofNat z) S) ∧ nd_g (v + 2) (fun x => x ≠ y) S (fo_ap (v + 2) (Int32.ofNat y) (Int32.ofNat z) S) ∧ nd_o (v + 2) (fo_ap (v + 2) (Int32.ofNat y) (Int32.ofNat z) S) y k x (zs ++ [z]) (sz + s2) (lt + l2) := by
  obtain ⟨-, -, t8, gL, -⟩ := cm_vv hX
  have h6 := h.2.2.2.2.1
  have h5 := h.2.2.2.2.2.1
  have h7 := h.2.2.2.2.2.2.1
  obtain ⟨n2, n3⟩ := nd_ap gL (by omega) (by omega) hyz (by omega) ho h10 h12
  obtain ⟨w1, w2⟩ := nd_ap_out (v + 2) (Int32.ofNat y) (Int32.ofNat z) S
  exact ⟨fo_append _ _ _ _, cm_t hX (fun a ha => w1 a (by omega)) w2 (by rw [w1 (v + 2) (by omega)]; exact h6) h5 h, n2, n3⟩
/-- one behind the other -/
theorem cm_bind {x : Except mk_E mk_O} {f : mk_O → Except mk_E mk_O} {o : Option ((Int32 ⊕ String) × wd_S)} {K : Int32 → wd_S → Option ((Int32 ⊕ String) × wd_S)} {r1 c1 g1 : Nat} (h : cm_R b v pg S0 r1 c1 g1 S1 x o) (hf : ∀ q z c' S', x = .ok q → cm_G b v pg S0 r1 c1 g1 S1 q z c' S' → cm_R b v pg S0 r c g S (f q) (K (Int32.ofNat z) S')) : cm_R b v pg S0 r c g S (mk_b x f) (wd_c o fun xo S9 => wd_o xo (fun x => K x S9) (fun E => some (.inr E, S9))) := by
  cases x with
  | error e =>
    cases e with
    | none => trivial
    | some e =>
      obtain ⟨S3, h1, h2⟩ := h
      exact ⟨S3, by rw [h1]; rfl, h2⟩
  | ok q =>
    obtain ⟨z, c', S', h1, h2⟩ := h
    rw [h1]
    exact hf q z c' S' rfl h2
theorem cm_K {x : Except mk_E mk_O} {o : Option ((Int32 ⊕ String) × wd_S)} (h : cm_R b v pg S0 r c g S x o) : cm_R b v pg S0 r c g S x (wd_c o fun xo S9 => wd_o xo (fun x => some (.inl x, S9)) (fun E => some (.inr E, S9))) := by
  have e : (wd_c o fun xo S9 => wd_o xo (fun x => some (.inl x, S9)) (fun E => some (.inr E, S9))) = o := by
    cases o with
    | none => rfl
    | some q =>
      obtain ⟨q1, q2⟩ := q
      cases q1 <;> rfl
  rw [e]
  exact h
theorem cm_mono {x : Except mk_E mk_O} {o : Option ((Int32 ⊕ String) × wd_S)} {r' g' c1 : Nat} (h : cm_R b v pg S0 r c1 g S1 x o) (hn : nd_g (v + 2) (fun x => x < c) S S1) (hc : c ≤ c1) (hr : r ≤ r') (hg : c1 + g' ≤ g + c) : cm_R b v pg S0 r' c g' S x o := by
  cases x with
  | error e =>
    cases e with
    | none => trivial
    | some e => exact h
  | ok q =>
    obtain ⟨z, c', S', h1, a1, a2, a3, a4, a5, a6, a7⟩ := h
    exact ⟨z, c', S', h1, a1, by omega, nd_trans hn (nd_mono (fun x hx => by omega) a3), nd_t_le (nd_t_r hc (Nat.le_refl _) _ _ _ a4) hr, a5, a6, a7⟩
/-- a NUMBER, a NAME -/
theorem cm_leaf (hX : cm_X b v pg S0) (h : cm_h b v pg S0 N s c S) (hc : c < s.2.1) (hg : g + 1 ≤ s.2.1) {k x : Int32} (hk : ¬k = 3) {c0 : Nat} {S9 : wd_S} (hn : nd_g (v + 2) (fun x => x < c0) S9 S) (hc0 : c0 ≤ c) (hgc : c + 1 + g ≤ s.2.1 + c0) : ∃ S', fn_Trees_open (v + 2) k x S = some (Int32.ofNat c, S') ∧ cm_G b v pg S0 (r + 1) c0 g S9 ((tr_l k x 0, 1, 0), N, s) c (c + 1) S' := by
  obtain ⟨e1, h1, n1, o1⟩ := cm_op hX h hc (k := k) (x := x)
  rw [if_neg hk] at o1
  refine ⟨_, e1, h1, hgc, nd_trans hn (nd_mono (fun x hx => by omega) n1), ?_, o1.2.2.2.1, o1.2.2.2.2.1, fun _ => rfl⟩
  exact nd_t_mk (d := r) (f := fun _ => tr_z) hc0 (Nat.lt_succ_self _) o1 (fun j hj => absurd hj (Nat.not_lt_zero _))
end Cm
