/-! The class's maker: version by version; make(). -/
def cf_W (v a k : Nat) : Prop := cm_W v a k ∨ a = v + 16
/-- the RESTS that are made -/
def cf_D (v c : Nat) (ds : pg_T) (S : wd_S) : Prop := ∀ j, (hj : j < ds.length) → ∃ y, S.1 (v + 16) j = Int32.ofNat y ∧ nd_t (v + 2) S 0 c 96 y ds[j].2.1 ∧ S.1 (v + 2 + 10) y = Int32.ofNat ds[j].2.2.1 ∧ S.1 (v + 2 + 12) y = Int32.ofNat ds[j].2.2.2
section Cf
variable {b v : Nat} {pg ds : pg_T} {S0 S S' S1 S2 : wd_S} {N N' : mk_N} {s s' : mk_S} {c c1 c' y z d r g n f k : Nat} {t : tr_T}
theorem cf_X (hX : cm_X b v pg S0) (ho : of_r (cf_W v) cx_R S0 S) : cm_X b v pg S := by
  obtain ⟨h1, h2, h3, h4, h5, h6, h7, h8, h9⟩ := hX
  have hr : ∀ a, a < 54 → S.1 a = S0.1 a := fun a ha => funext fun k => ho.1 a k (by unfold cf_W cm_W cx_W; omega)
  refine ⟨h1, h2, by rw [ho.2.2.1 115 1 (by unfold cx_R; omega)]; exact h3, by rw [ho.2.2.1 115 2 (by unfold cx_R; omega)]; exact h4, by rw [ho.2.2.1 115 3 (by unfold cx_R; omega)]; exact h5, by rw [ho.2.2.1 115 4 (by unfold cx_R; omega)]; exact h6, ⟨by rw [hr b (by omega)]; exact h7.1, fun j hj => ?_⟩, h8, h9⟩
  obtain ⟨q1, y, q2, q3, q4, q5⟩ := h7.2 j hj
  exact ⟨by rw [hr (b + 17) (by omega)]; exact q1, y, by rw [hr (b + 15) (by omega)]; exact q2, nd_t_g (nd_rows (fun a w1 w2 => hr a (by omega))) _ _ _ q3, by rw [hr (b + 1 + 10) (by omega)]; exact q4, by rw [hr (b + 1 + 12) (by omega)]; exact q5⟩
theorem cf_Do (h16 : ∀ j, j < ds.length → S'.1 (v + 16) j = S.1 (v + 16) j) (hn : nd_g (v + 2) (fun x => x < c) S S') (hc : c ≤ c') (h : cf_D v c ds S) : cf_D v c' ds S' := fun j hj => by
  obtain ⟨y, h1, h2, h3, h4⟩ := h j hj
  obtain ⟨-, -, -, k4⟩ := cm_nk h2
  have := hn y k4
  exact ⟨y, by rw [h16 j hj]; exact h1, nd_t_r (Nat.le_refl _) hc _ _ _ (nd_t_g (nd_mono (fun x hx => hx.2) hn) _ _ _ h2), by rw [this.2.2.2.1]; exact h3, by rw [this.2.2.2.2.1]; exact h4⟩
theorem cf_hr (h : cm_h b v pg S0 N s c S) : cm_h b v pg S N s c S := ⟨ofr_refl, h.2⟩
theorem cf_fill : ∀ (F k c : Nat) (ds : pg_T) (s : mk_S) (G : Nat) (S : wd_S), F + k = 79 → cm_X b v pg S → cm_h b v pg S (fun _ => none) s c S → ds.length = k → k ≤ s.1.length → cf_D v c ds S → match mk_lp pg F k ds s with
    | .error none => True
    | .error (some _) => ∃ S1, fn_Maker_fill_46 (G + F) (Int32.ofNat k) S = some (.inr "java/lang/UnsupportedOperationException", wd_n S1) ∧ of_r (cf_W v) cx_R S S1
    | .ok q => ∃ c' S', fn_Maker_fill_46 (G + F) (Int32.ofNat k) S = some (.inl (), S') ∧ of_r (cf_W v) cx_R S S' ∧ cm_h b v pg S' (fun _ => none) q.2 c' S' ∧ cf_D v c' q.1 S' ∧ q.1.length = q.2.1.length := by
  intro F
  induction F with
  | zero => intro k c ds s G S _ _ _ _ _ _; trivial
  | succ F ih =>
    intro k c ds s G S hF hX h hdl hkl hD
    obtain ⟨t9, t0, t8, gL, z16, z18, z20, z22, z24⟩ := cm_vv hX
    obtain ⟨u0, u8, uL, u15, u17⟩ := cm_bb hX
    have hv := hX.2.1
    have hb := hX.1
    have hpl := hX.2.2.2.2.2.2.2.1
    have h9 := h.2.2.2.2.2.2.2.2
    have hlv := mk_ok_len h9.2.1
    unfold mk_lp
    show match (match s.1[k]? with | none => .ok (ds, s) | some v => _ : Except mk_E (pg_T × mk_S)) with
      | .error none => True
      | .error (some _) => ∃ S1, fn_Maker_fill_46 (G + F + 1) (Int32.ofNat k) S = some (.inr "java/lang/UnsupportedOperationException", wd_n S1) ∧ of_r (cf_W v) cx_R S S1
      | .ok q => ∃ c' S', fn_Maker_fill_46 (G + F + 1) (Int32.ofNat k) S = some (.inl (), S') ∧ of_r (cf_W v) cx_R S S' ∧ cm_h b v pg S' (fun _ => none) q.2 c' S' ∧ cf_D v c' q.1 S' ∧ q.1.length = q.2.1.length
    rw [fn_Maker_fill_46]
    unfold fn_Maker_fill_105 fn_Versions_count fn_Bodies_count
    by_cases hk : k < s.1.length
    · rw [List.getElem?_eq_getElem hk]
      simp only []
      have hb9 := h9.2.1.1 s.1[k] (List.getElem_mem hk)
      obtain ⟨a1, a2, a3, a4⟩ := h9.2.2 k hk
      have hpn := hX.2.2.2.2.2.2.2.2 s.1[k].1
      obtain ⟨S1, f1, h1, g1⟩ := cm_bp hX hk (pg_n pg s.1[k].1) 0 (999999 - pg_n pg s.1[k].1) (fun _ => none) S (Nat.zero_add _) h (fun j hj => absurd hj (Nat.not_lt_zero _))
      rw [show 999999 - pg_n pg s.1[k].1 + 1 + pg_n pg s.1[k].1 = wd_F by rw [show wd_F = 1000000 from rfl]; omega] at f1
      have f1 : fn_Maker_bindParams (Int32.ofNat k) S = some S1 := f1
      rw [if_pos (show Int32.ofNat k < 78 from (im_lt (m := k) (n := 78) (by omega) (by omega)).mpr (by omega)), cm_r3 hX h.1, if_pos t9, wd_c_s, wd_c_s, h9.1, if_pos ((im_lt (by omega) (by omega)).mpr hk), f1, wd_d_s, cm_r3 hX h1.1, if_pos t9]
      unfold fn_Versions_bodies fn_Versions_functionOf
      have v1 := (h1.2.2.2.2.2.2.2.2.2.2 k hk).1
      obtain ⟨-, x0, q2, q3, -⟩ := hX.2.2.2.2.2.2.1.2 s.1[k].1 hb9.1
      rw [wd_c_s, if_pos t0, cm_r1 hX h1.1, if_pos u0, cm_r3 hX h1.1, if_pos t9, ro_at_ok, wd_c_s, wd_c_s, ro_an (r := v + 19) z20 (show k < 78 by omega), show S1.1 (v + 19 + 1) k = Int32.ofNat s.1[k].1 from v1, fo_root, wd_c_s, ro_an (r := b + 14) u15 (show s.1[k].1 < 48 by omega), cm_row hX h1.1 (b + 14 + 1) (by omega), show S.1 (b + 14 + 1) s.1[k].1 = Int32.ofNat x0 from q2]
      have hP : (pg_P pg).getD s.1[k].1 tr_z = pg[s.1[k].1].2.1 := by
        unfold pg_P
        rw [List.getD_eq_getElem?_getD, List.getElem?_map, List.getElem?_eq_getElem hb9.1]
        rfl
      rw [hP]
      have hR := cm_all hX 96 (Nat.le_refl _) _ _ _ _ _ _ _ h1 q3
      have er : rc_Maker_become (2 * 96 + 8) 93 (Int32.ofNat x0) (Int32.ofNat (96 - 96)) S1 = rc_Maker_become 200 93 (Int32.ofNat x0) 0 S1 := rfl
      rw [er] at hR
      cases hm : mk pg 96 (mk_e (pg_n pg s.1[k].1) s.1[k]) s pg[s.1[k].1].2.1 with
      | error e =>
        rw [hm] at hR
        cases e with
        | none => trivial
        | some e =>
          obtain ⟨S2, e2, o2⟩ := hR
          rw [e2, wd_c_s]
          exact ⟨S2, rfl, ⟨fun a k q => o2.1 a k (fun z => q (Or.inl z)), fun a k q => o2.2.1 a k (fun z => q (Or.inl z)), o2.2.2.1, o2.2.2.2⟩⟩
      | ok q =>
        rw [hm] at hR
        obtain ⟨z, c2, S2, e2, h2, i2, n2, w2, b1, b2, b3⟩ := hR
        obtain ⟨m1, m2, m3, m4⟩ := cm_nk w2
        rw [e2, wd_c_s]
        show match mk_lp pg F (k + 1) (ds ++ [(mk_lf s.1[k].2.1 (pg_n pg s.1[k].1), q.1.1, q.1.2.1, q.1.2.2)]) q.2.2 with
          | .error none => True
          | .error (some _) => ∃ S1, wd_d (fn_Bodies_setRoot (v + 1) (Int32.ofNat k) (Int32.ofNat z) S2) (fun S46 => fn_Maker_fill_46 (G + F) (Int32.ofNat k + 1) S46) = some (.inr "java/lang/UnsupportedOperationException", wd_n S1) ∧ of_r (cf_W v) cx_R S S1
          | .ok q => ∃ c' S', wd_d (fn_Bodies_setRoot (v + 1) (Int32.ofNat k) (Int32.ofNat z) S2) (fun S46 => fn_Maker_fill_46 (G + F) (Int32.ofNat k + 1) S46) = some (.inl (), S') ∧ of_r (cf_W v) cx_R S S' ∧ cm_h b v pg S' (fun _ => none) q.2 c' S' ∧ cf_D v c' q.1 S' ∧ q.1.length = q.2.1.length
        unfold fn_Bodies_setRoot
        rw [ro_put_ok, wd_d_s, wd_d_s, ro_pn (r := v + 1 + 14) (show (tp_t (v + 1 + 14 + 1)).2 = 78 by rw [show v + 1 + 14 + 1 = v + 16 by omega]; exact z16) (show k < 78 by omega), im_s]
        generalize hS3 : wd_i S2 (v + 1 + 14 + 1) k (Int32.ofNat z) = S3
        have o3 : of_r (fun a j => a = v + 16 ∧ j = k) cx_R S2 S3 := by rw [← hS3]; exact ofr_i (by omega) ofr_refl
        have v16 : S3.1 (v + 16) k = Int32.ofNat z := by rw [← hS3, fr_e (by omega)]
        have oA : of_r (cf_W v) cx_R S S3 := ofr_trans ⟨fun a k q => h2.1.1 a k (fun z => q (Or.inl z)), fun a k q => h2.1.2.1 a k (fun z => q (Or.inl z)), h2.1.2.2.1, h2.1.2.2.2⟩ ⟨fun a j q => o3.1 a j (fun z => q (Or.inr z.1)), fun a j q => o3.2.1 a j (fun z => q (Or.inr z.1)), o3.2.2.1, o3.2.2.2⟩
        have h3 : cm_h b v pg S3 (fun _ => none) q.2.2 c2 S3 := by
          obtain ⟨a1, a2, a3, a4, a5, a6, a7, a8, a9⟩ := h2
          exact ⟨ofr_refl, by rw [o3.1 115 8 (by omega)]; exact a2, by rw [o3.1 115 9 (by omega)]; exact a3, by rw [o3.1 115 10 (by omega)]; exact a4, by rw [o3.1 (v + 2) 6 (by omega)]; exact a5, a6, a7, fun i q hi => (by cases hi), cm_ov hv o3 (fun a k q => by omega) a9⟩
        have n3 : nd_g (v + 2) (fun x => x < c2) S2 S3 := cm_hn hX o3 (fun a k q => by omega) _
        have hc2 : c ≤ c2 := by omega
        have hD1 : cf_D v c2 ds S3 := cf_Do (c := c) (fun j hj => by rw [o3.1 (v + 16) j (by omega), h2.1.1 (v + 16) j (by unfold cm_W cx_W; omega)]) (nd_trans g1 (nd_trans n2 (nd_mono (fun x hx => by omega) n3))) hc2 hD
        have hkp : k + 1 ≤ q.2.2.1.length := Nat.lt_of_lt_of_le hk (mk_pre _ _ _ _ _ hm).length_le
        have := ih (k + 1) c2 (ds ++ [(mk_lf s.1[k].2.1 (pg_n pg s.1[k].1), q.1.1, q.1.2.1, q.1.2.2)]) q.2.2 G S3 (by omega) (cf_X hX oA) h3 (by rw [List.length_append]; show ds.length + 1 = k + 1; omega) hkp (fun j hj => by
          rw [List.length_append] at hj
          have hj : j < ds.length + 1 := hj
          by_cases e : j = ds.length
          · subst e
            rw [List.getElem_append_right (Nat.le_refl _)]
            simp only [Nat.sub_self, List.getElem_cons_zero]
            have := n3 z m4
            exact ⟨z, by rw [hdl]; exact v16, nd_t_r (Nat.zero_le _) (Nat.le_refl _) _ _ _ (nd_t_g (nd_mono (fun x hx => hx.2) n3) _ _ _ w2), by rw [this.2.2.2.1]; exact b1, by rw [this.2.2.2.2.1]; exact b2⟩
          · rw [List.getElem_append_left (show j < ds.length by omega)]
            exact hD1 j (by omega))
        cases hq : mk_lp pg F (k + 1) (ds ++ [(mk_lf s.1[k].2.1 (pg_n pg s.1[k].1), q.1.1, q.1.2.1, q.1.2.2)]) q.2.2 with
        | error e =>
          rw [hq] at this
          cases e with
          | none => trivial
          | some e =>
            obtain ⟨S4, e4, o4⟩ := this
            exact ⟨S4, e4, ofr_trans oA o4⟩
        | ok w =>
          rw [hq] at this
          obtain ⟨c4, S4, e4, o4, h4, d4, l4⟩ := this
          exact ⟨c4, S4, e4, ofr_trans oA o4, h4, d4, l4⟩
    · have hk2 : k = s.1.length := by omega
      rw [List.getElem?_eq_none (by omega)]
      simp only []
      refine ⟨c, S, ?_, ofr_refl, h, hD, by omega⟩
      rw [cm_r3 hX h.1, if_pos t9, wd_c_s, wd_c_s, h9.1, hk2, if_neg Int32.lt_irrefl, ite_self]
theorem cf_clear (S : wd_S) : fn_Versions_clear v S = some (wd_i (wd_i S (v + 2) 6 0) (v + 1) 3 0) := by
  unfold fn_Versions_clear fn_Bodies_clear fn_Trees_clear
  simp only [wd_b]
  rfl
theorem cf_ex (hn : n < 1000) : ∀ (q k F : Nat) (x : Int32), k + q = n → S.1 (v + 1) 3 = Int32.ofNat n → ∃ y, fn_Versions_expressions_4 (F + 1 + q) v x (Int32.ofNat k) S = some (y, S) := by
  intro q
  induction q with
  | zero =>
    intro k F x hk h
    have hk : k = n := hk
    rw [Nat.add_zero, fn_Versions_expressions_4]
    unfold fn_Versions_count fn_Bodies_count
    rw [wd_c_s, wd_c_s, h, hk, if_neg Int32.lt_irrefl]
    exact ⟨x, rfl⟩
  | succ q ih =>
    intro k F x hk h
    show ∃ y, fn_Versions_expressions_4 (F + 1 + q + 1) v x (Int32.ofNat k) S = some (y, S)
    rw [fn_Versions_expressions_4]
    unfold fn_Versions_count fn_Bodies_count fn_Bodies_expressions
    rw [wd_c_s, wd_c_s, h, if_pos ((im_lt (by omega) (by omega)).mpr (by omega)), fo_root, wd_c_s, fo_tsize, wd_c_s, wd_c_s, im_s]
    exact ih (k + 1) F _ (by omega) h
theorem cf_told (hv : S.2.2.1 1 7 = v) (t9 : tp_t v = (0, 9)) (hn : n < 1000) (h : S.1 (v + 1) 3 = Int32.ofNat n) (hv2 : v = 54 ∨ v = 79) : ∃ S', fn_Sp_keepTold S = some S' ∧ of_f (fun a k => a = 125) S S' := by
  have hput : ∀ (i x : Int32) (S : wd_S), of_f (fun a k => a = 125) S (ro_put 124 i x S) := fun i x S => of_put (fun _ => rfl) of_refl
  unfold fn_Sp_keepTold fn_Versions_count fn_Bodies_count fn_Maker_tried fn_Maker_triedWell fn_Maker_goneThrough
  rw [hv, if_pos t9, wd_c_s, wd_c_s, ro_put_ok, wd_d_s]
  generalize hS1 : ro_put 124 0 (S.1 (v + 1) 3) S = S1
  have o1 : of_f (fun a k => a = 125) S S1 := by rw [← hS1]; exact hput _ _ _
  obtain ⟨y, hy⟩ := cf_ex (S := S1) (v := v) hn n 0 (999999 - n) 0 (Nat.zero_add _) (by rw [o1.1 (v + 1) 3 (by omega)]; exact h)
  rw [show 999999 - n + 1 + n = wd_F by rw [show wd_F = 1000000 from rfl]; omega] at hy
  have hy : fn_Versions_expressions v S1 = some (y, S1) := hy
  rw [o1.2.2, hv, if_pos t9, hy, wd_c_s, ro_put_ok, wd_d_s, wd_c_s, ro_put_ok, wd_d_s, wd_c_s, ro_put_ok, wd_d_s, wd_c_s, ro_put_ok, wd_d_s]
  exact ⟨_, rfl, of_trans o1 (of_trans (hput _ _ _) (of_trans (hput _ _ _) (of_trans (hput _ _ _) (hput _ _ _))))⟩
/-- what a make() may write -/
def ck_W (v a k : Nat) : Prop := cf_W v a k ∨ a = 125 ∨ (a = 1 ∧ k = 12)
def ck_R (a k : Nat) : Prop := cx_R a k ∨ (a = 115 ∧ 1 ≤ k ∧ k ≤ 4) ∨ (a = 1 ∧ (k = 7 ∨ k = 8))
def ck_x (b : Nat) (pg : pg_T) (m : Nat) (kn : Nat → Int32) (p : Int32) : String ⊕ (Nat × Except mk_E (pg_T × mk_S)) := if pg.length = 0 then .inl "java/lang/IllegalStateException" else if p < 0 ∨ ¬p < Int32.ofNat pg.length then .inl "java/lang/IndexOutOfBoundsException" else .inr (p.toNatClampNeg, mk_all pg p.toNatClampNeg (m % 2 ^ pg_n pg p.toNatClampNeg) kn)
theorem sp_make {v' m : Nat} {kn : Nat → Int32} {p : Int32} (hb : b = 11 ∨ b = 29) (hvv : (v = 54 ∧ v' = 79) ∨ (v = 79 ∧ v' = 54)) (h5 : S.2.2.1 1 5 = b) (h7 : S.2.2.1 1 7 = v') (h8 : S.2.2.1 1 8 = v) (hP : cl_P b 1500 pg S) (hpl : pg.length ≤ 48) (hpn : ∀ f, pg_n pg f ≤ 4) (hm : m < 16) (h12 : S.1 1 12 = Int32.ofNat m) (hkn : ∀ i, i < 4 → S.1 123 i = kn i) : match ck_x b pg m kn p with
    | .inl E => fn_Sp_make p S = some (.inr E, wd_n S)
    | .inr (_, .error none) => True
    | .inr (_, .error (some _)) => ∃ S1, fn_Sp_make p S = some (.inr "java/lang/UnsupportedOperationException", wd_n S1) ∧ of_r (cf_W v) (fun a k => cx_R a k ∨ (a = 115 ∧ 1 ≤ k ∧ k ≤ 4)) S S1
    | .inr (_, .ok q) => ∃ S', fn_Sp_make p S = some (.inl (Int32.ofNat q.2.1.length), S') ∧ of_r (ck_W v) ck_R S S' ∧ S'.2.2.1 1 7 = v ∧ S'.2.2.1 1 8 = v' ∧ S'.1 1 12 = 0 ∧ cm_v v pg q.2.1 S' ∧ q.1.length = q.2.1.length ∧ cf_D v 1000 q.1 S' := by
  have t9 : tp_t v = (0, 9) := by rcases hvv with h | h <;> rw [h.1] <;> rfl
  have t9' : tp_t v' = (0, 9) := by rcases hvv with h | h <;> rw [h.2] <;> rfl
  have u0 : tp_t b = (0, 0) := by rcases hb with h | h <;> rw [h] <;> rfl
  have u17 : (tp_t (b + 17)).2 = 48 := by rcases hb with h | h <;> rw [h] <;> rfl
  have u8 : tp_t (b + 1) = (0, 8) := by rcases hb with h | h <;> rw [h] <;> rfl
  unfold fn_Sp_make fn_Bodies_count ck_x
  rw [h5, if_pos u0, wd_c_s, hP.1]
  by_cases e0 : pg.length = 0
  · rw [if_pos e0, e0, if_pos (show Int32.ofNat 0 = 0 from rfl)]
  · rw [if_neg e0, if_neg (show ¬Int32.ofNat pg.length = 0 from fun q => e0 ((im_eq (m := pg.length) (n := 0) (by omega) (by omega)).mp q)), h5, if_pos u0, fo_has, wd_c_s, hP.1]
    by_cases e1 : p < 0 ∨ ¬p < Int32.ofNat pg.length
    · rw [if_pos e1, if_pos e1, if_pos rfl]
    · rw [if_neg e1, if_neg e1, if_neg (by decide)]
      have hp0 : ¬p < 0 := fun q => e1 (Or.inl q)
      have hp1 : p.toNatClampNeg < pg.length := (im_ltn hp0 (by omega)).mp (Decidable.byContradiction (fun z => e1 (Or.inr z)))
      generalize hf : p.toNatClampNeg = f at *
      have ep : p = Int32.ofNat f := by rw [← hf]; exact (im_of hp0).symm
      clear e1 hf hp0
      subst ep
      have hpf := hpn f
      have hp16 : 2 ^ pg_n pg f ≤ 2 ^ 4 := Nat.pow_le_pow_right (by decide) hpf
      have hm' : m % 2 ^ pg_n pg f < 2 ^ pg_n pg f := Nat.mod_lt _ (Nat.two_pow_pos _)
      have hpf2 : S.1 (b + 17) f = Int32.ofNat (pg_n pg f) := by
        rw [(hP.2 f hp1).1]
        unfold pg_n
        rw [List.getD_eq_getElem?_getD, List.getElem?_eq_getElem hp1]
        rfl
      rw [h8, if_pos t9, cf_clear, wd_d_s]
      generalize hS1 : wd_i (wd_i S (v + 2) 6 0) (v + 1) 3 0 = S1
      have e1 : S1.2 = S.2 := by rw [← hS1]; rfl
      have o1 : of_r (fun a k => (a = v + 2 ∧ k = 6) ∨ (a = v + 1 ∧ k = 3)) cx_R S S1 := by rw [← hS1]; exact ofr_i (by omega) (ofr_i (by omega) ofr_refl)
      have c6 : S1.1 (v + 2) 6 = 0 := by rw [← hS1, fr_ne (by omega), fr_eq]
      have c3 : S1.1 (v + 1) 3 = 0 := by rw [← hS1, fr_eq]
      clear hS1
      unfold fn_Bodies_paramMask
      rw [e1, h8, h5, if_pos t9, if_pos u0, fo_params, wd_c_s, ro_an (r := b + 16) u17 (show f < 48 by omega), o1.1 (b + 16 + 1) f (by omega), show S.1 (b + 16 + 1) f = Int32.ofNat (pg_n pg f) from hpf2, wd_c_s, mk_i_pm _ (by omega), e1, h5, if_pos u0, fo_params, wd_c_s, ro_an (r := b + 16) u17 (show f < 48 by omega), o1.1 (b + 16 + 1) f (by omega), show S.1 (b + 16 + 1) f = Int32.ofNat (pg_n pg f) from hpf2, o1.1 1 12 (by omega), h12, mk_i_an m hm _ (by omega)]
      generalize hmm : m % 2 ^ pg_n pg f = m' at *
      have hok : mk_ok pg ([] ++ [mk_new f m' kn]) := mk_ok_add ⟨fun q hq => absurd hq List.not_mem_nil, fun q hq => by rw [List.drop_nil] at hq; exact absurd hq List.not_mem_nil, by rw [List.drop_nil]; exact List.nodup_nil⟩ hp1 hm' (Or.inl (by decide))
      have hT : cv_T v := by rcases hvv with h | h <;> rw [h.1] <;> exact ⟨by decide, rfl, rfl, rfl, rfl⟩
      obtain ⟨S2, f2, o2, v2⟩ := cv_add (p := 122) (vs := []) (S := S1) hT ⟨c3, ⟨fun q hq => absurd hq List.not_mem_nil, fun q hq => by rw [List.drop_nil] at hq; exact absurd hq List.not_mem_nil, by rw [List.drop_nil]; exact List.nodup_nil⟩, fun j hj => absurd hj (Nat.not_lt_zero _)⟩ hpl hpn hok rfl (by decide) (fun i h1 _ => by rw [o1.1 (122 + 1) i (by omega)]; exact hkn i h1)
      rw [f2, wd_c_s, o2.2.2, e1, h5, h8, if_pos u0, if_pos t9]
      unfold fn_Maker_fill fn_Bodies_trees fn_Versions_bodies
      simp only [wd_b]
      rw [wd_c_s, if_pos u8, wd_c_s, if_pos (show tp_t (v + 1) = (0, 0) by rcases hvv with h | h <;> rw [h.1] <;> rfl), wd_c_s, if_pos (show tp_t (v + 1 + 1) = (0, 8) by rcases hvv with h | h <;> rw [h.1] <;> rfl)]
      generalize hS3 : wd_i (wd_i (wd_i (wd_r (wd_r (wd_r (wd_r S2 115 1 b) 115 2 (b + 1)) 115 3 v) 115 4 (v + 1 + 1)) 115 8 0) 115 9 0) 115 10 0 = S3
      have o3 : of_r (fun a k => a = 115 ∧ (k = 8 ∨ k = 9 ∨ k = 10)) (fun a k => a = 115 ∧ 1 ≤ k ∧ k ≤ 4) S2 S3 := by
        rw [← hS3]
        exact ofr_i (by omega) (ofr_i (by omega) (ofr_i (by omega) (ofr_r (by omega) (ofr_r (by omega) (ofr_r (by omega) (ofr_r (by omega) ofr_refl))))))
      have w8 : S3.1 115 8 = 0 := by rw [← hS3, fr_ne (by omega), fr_ne (by omega), fr_eq]
      have w9 : S3.1 115 9 = 0 := by rw [← hS3, fr_ne (by omega), fr_eq]
      have w10 : S3.1 115 10 = 0 := by rw [← hS3, fr_eq]
      have r1 : S3.2.2.1 115 1 = b := by rw [← hS3]; rfl
      have r2 : S3.2.2.1 115 2 = b + 1 := by rw [← hS3]; rfl
      have r3 : S3.2.2.1 115 3 = v := by rw [← hS3]; rfl
      have r4 : S3.2.2.1 115 4 = v + 2 := by rw [← hS3]; rfl
      clear hS3
      have oS : of_r (cf_W v) (fun a k => cx_R a k ∨ (a = 115 ∧ 1 ≤ k ∧ k ≤ 4)) S S3 := by
        refine ofr_trans ⟨fun a k q => o1.1 a k (fun z => q ?_), fun a k q => o1.2.1 a k (fun z => q ?_), fun a k q => o1.2.2.1 a k (fun z => q (Or.inl z)), o1.2.2.2⟩ (ofr_trans (ofr_of (fun a k q => ?_) o2) ⟨fun a k q => o3.1 a k (fun z => q ?_), fun a k q => o3.2.1 a k (fun z => q ?_), fun a k q => o3.2.2.1 a k (fun z => q (Or.inr z)), o3.2.2.2⟩)
        · unfold cf_W cm_W; omega
        · unfold cf_W cm_W; omega
        · unfold cv_W at q; unfold cf_W cm_W; omega
        · unfold cf_W cm_W; omega
        · unfold cf_W cm_W; omega
      have hrow : ∀ a, a < 54 → S3.1 a = S.1 a := fun a ha => funext fun k => oS.1 a k (by unfold cf_W cm_W cx_W; omega)
      have hX3 : cm_X b v pg S3 := by
        refine ⟨hb, by omega, r1, r2, r3, r4, ⟨by rw [hrow b (by omega)]; exact hP.1, fun j hj => ?_⟩, hpl, hpn⟩
        obtain ⟨q1, y, q2, q3, q4, q5⟩ := hP.2 j hj
        exact ⟨by rw [hrow (b + 17) (by omega)]; exact q1, y, by rw [hrow (b + 15) (by omega)]; exact q2, nd_t_g (nd_rows (fun a w1 w2 => hrow a (by omega))) _ _ _ q3, by rw [hrow (b + 1 + 10) (by omega)]; exact q4, by rw [hrow (b + 1 + 12) (by omega)]; exact q5⟩
      have v3 : cm_v v pg [mk_new f m' kn] S3 := by
        obtain ⟨k1, k2, k3⟩ := v2
        refine ⟨by rw [o3.1 (v + 1) 3 (by omega)]; exact k1, k2, fun j hj => ?_⟩
        obtain ⟨l1, l2, l3, l4⟩ := k3 j hj
        exact ⟨by rw [o3.1 (v + 20) j (by omega)]; exact l1, by rw [o3.1 (v + 22) j (by omega)]; exact l2, by rw [o3.1 (v + 18) j (by omega)]; exact l3, fun i hi => by rw [o3.1 (v + 24) _ (by omega)]; exact l4 i hi⟩
      have h3 : cm_h b v pg S3 (fun _ => none) ([mk_new f m' kn], 0, 0, 0) 0 S3 := ⟨ofr_refl, w8, w9, w10, by rw [o3.1 (v + 2) 6 (by omega), o2.1 (v + 2) 6 (by unfold cv_W; omega)]; exact c6, Nat.le_refl _, Nat.zero_le _, fun i q hi => (by cases hi), v3⟩
      have hfl := cf_fill 79 0 0 [] ([mk_new f m' kn], 0, 0, 0) (1000000 - 79) S3 rfl hX3 h3 rfl (Nat.zero_le _) (fun j hj => absurd hj (Nat.not_lt_zero _))
      have hfl : match mk_all pg f m' kn with
          | .error none => True
          | .error (some _) => ∃ S1, fn_Maker_fill_46 wd_F 0 S3 = some (.inr "java/lang/UnsupportedOperationException", wd_n S1) ∧ of_r (cf_W v) cx_R S3 S1
          | .ok q => ∃ c' S', fn_Maker_fill_46 wd_F 0 S3 = some (.inl (), S') ∧ of_r (cf_W v) cx_R S3 S' ∧ cm_h b v pg S' (fun _ => none) q.2 c' S' ∧ cf_D v c' q.1 S' ∧ q.1.length = q.2.1.length := hfl
      have hRR : ∀ S4, of_r (cf_W v) cx_R S3 S4 → of_r (cf_W v) (fun a k => cx_R a k ∨ (a = 115 ∧ 1 ≤ k ∧ k ≤ 4)) S S4 := fun S4 o4 => ofr_trans oS ⟨o4.1, o4.2.1, fun a k q => o4.2.2.1 a k (fun z => q (Or.inl z)), o4.2.2.2⟩
      cases hq : mk_all pg f m' kn with
      | error e =>
        rw [hq] at hfl
        cases e with
        | none => trivial
        | some e =>
          obtain ⟨S4, e4, o4⟩ := hfl
          rw [e4, wd_c_s]
          exact ⟨S4, rfl, hRR S4 o4⟩
      | ok q =>
        rw [hq] at hfl
        obtain ⟨c4, S4, e4, o4, h4, d4, l4⟩ := hfl
        have oo := hRR S4 o4
        have r17 : S4.2.2.1 1 7 = v' := by rw [oo.2.2.1 1 7 (by unfold cx_R; omega)]; exact h7
        have r18 : S4.2.2.1 1 8 = v := by rw [oo.2.2.1 1 8 (by unfold cx_R; omega)]; exact h8
        rw [e4, wd_c_s]
        show ∃ S', (if tp_t (S4.2.2.1 1 7) = (0, 9) then (if tp_t (S4.2.2.1 1 8) = (0, 9) then wd_d (fn_Sp_keepTold (wd_i (wd_r (wd_r S4 1 7 (S4.2.2.1 1 8)) 1 8 (S4.2.2.1 1 7)) 1 12 0)) _ else none) else none) = _ ∧ _
        rw [r17, r18, if_pos t9', if_pos t9]
        generalize hS5 : wd_i (wd_r (wd_r S4 1 7 v) 1 8 v') 1 12 0 = S5
        have o5 : of_r (fun a k => a = 1 ∧ k = 12) (fun a k => a = 1 ∧ (k = 7 ∨ k = 8)) S4 S5 := by rw [← hS5]; exact ofr_i (by omega) (ofr_r (by omega) (ofr_r (by omega) ofr_refl))
        have s7 : S5.2.2.1 1 7 = v := by rw [← hS5]; rfl
        have s8 : S5.2.2.1 1 8 = v' := by rw [← hS5]; rfl
        have s12 : S5.1 1 12 = 0 := by rw [← hS5, fr_eq]
        clear hS5
        have h9 := h4.2.2.2.2.2.2.2.2
        have hlv := mk_ok_len h9.2.1
        obtain ⟨S6, f6, o6⟩ := cf_told (n := q.2.1.length) s7 t9 (by omega) (by rw [o5.1 (v + 1) 3 (by omega)]; exact h9.1) (by omega)
        rw [f6, wd_d_s]
        have t7 : S6.2.2.1 1 7 = v := by rw [o6.2.2]; exact s7
        have t8 : S6.2.2.1 1 8 = v' := by rw [o6.2.2]; exact s8
        have e6 : ∀ a, ¬a = 1 → ¬a = 125 → S6.1 a = S4.1 a := fun a q1 q2 => funext fun k => by rw [o6.1 a k q2, o5.1 a k (fun z => q1 z.1)]
        have h96 : cm_v v pg q.2.1 S6 := by
          obtain ⟨k1, k2, k3⟩ := h9
          refine ⟨by rw [e6 (v + 1) (by omega) (by omega)]; exact k1, k2, fun j hj => ?_⟩
          obtain ⟨l1, l2, l3, l4⟩ := k3 j hj
          exact ⟨by rw [e6 (v + 20) (by omega) (by omega)]; exact l1, by rw [e6 (v + 22) (by omega) (by omega)]; exact l2, by rw [e6 (v + 18) (by omega) (by omega)]; exact l3, fun i hi => by rw [e6 (v + 24) (by omega) (by omega)]; exact l4 i hi⟩
        unfold fn_Versions_count fn_Bodies_count
        rw [t7, if_pos t9, wd_c_s, wd_c_s, h96.1]
        refine ⟨S6, rfl, ⟨fun a k z => ?_, fun a k z => ?_, fun a k z => ?_, ?_⟩, t7, t8, by rw [o6.1 1 12 (by omega)]; exact s12, h96, l4, cf_Do (c := c4) (fun j _ => by rw [e6 (v + 16) (by omega) (by omega)]) (nd_rows (fun a w1 w2 => e6 a (by omega) (by omega))) (Nat.le_trans h4.2.2.2.2.2.1 h4.2.2.2.2.2.2.1) d4⟩
        · rw [o6.1 a k (fun w => z (Or.inr (Or.inl w))), o5.1 a k (fun w => z (Or.inr (Or.inr w))), oo.1 a k (fun w => z (Or.inl w))]
        · rw [o6.2.1 a k (fun w => z (Or.inr (Or.inl w))), o5.2.1 a k (fun w => z (Or.inr (Or.inr w))), oo.2.1 a k (fun w => z (Or.inl w))]
        · rw [o6.2.2, o5.2.2.1 a k (fun w => z (Or.inr (Or.inr w))), oo.2.2.1 a k (fun w => z (by rcases w with w | w; exact Or.inl w; exact Or.inr (Or.inl w)))]
        · rw [o6.2.2, o5.2.2.2, oo.2.2.2]
end Cf
