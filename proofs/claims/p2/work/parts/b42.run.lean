/-! run(): what it gives; the class. -/
def ge {α : Type} (x : Except ev_E α) : Prop := match x with
  | .ok _ => True
  | .error none => True
  | .error (some e) => e.1 = 2 ∨ e.1 = 3
theorem ge_b {α β : Type} {x : Except ev_E α} {f : α → Except ev_E β} (h : ge x) (hf : ∀ a, ge (f a)) : ge (ev_b x f) := by
  cases x with
  | ok a => exact hf a
  | error e =>
    cases e with
    | none => trivial
    | some u => exact h
theorem ge_args {self : ev_P} (hs : ∀ V s m t, ge (self V s m t)) {t : tr_T} : ∀ (r j : Nat) (V : ev_V) (s m : Nat), ge (ev_args self t r j V s m) := by
  intro r
  induction r with
  | zero => intro j V s m; trivial
  | succ r ih =>
    intro j V s m
    exact ge_b (hs _ _ _ _) (fun q => ge_b (ih _ _ _ _) (fun w => trivial))
theorem ev_ge {P : List tr_T} {lim : Nat} : ∀ (r : Nat) (V : ev_V) (s m : Nat) (t : tr_T), ge (ev P lim r V s m t) := by
  intro r
  induction r with
  | zero =>
    intro V s m t
    unfold ev
    split
    · exact Or.inl rfl
    · exact Or.inr rfl
  | succ r ih =>
    intro V s m t
    unfold ev
    split
    · exact Or.inl rfl
    · unfold ev_in
      split
      · split
        · trivial
        · split
          · split <;> trivial
          · split
            · exact ge_b (ih _ _ _ _) (fun q => ih _ _ _ _)
            · split
              · exact ge_b (ih _ _ _ _) (fun q => ih _ _ _ _)
              · split
                · exact ge_b (ge_args ih _ _ _ _ _) (fun q => ge_b (ih _ _ _ _) (fun w => trivial))
                · exact ge_b (ih _ _ _ _) (fun q => ge_b (ih _ _ _ _) (fun w => trivial))
      · trivial
def rn (pg : pg_T) (l : List Int32) (p lim : Int32) : String ⊕ (Int32 × Int32 × Nat × Nat) := if pg.length = 0 then .inl "java/lang/IllegalStateException" else if p < 0 ∨ ¬p < Int32.ofNat pg.length then .inl "java/lang/IndexOutOfBoundsException" else if lim < 0 ∨ 20000 < lim then .inl "java/lang/IllegalArgumentException" else if pg_n pg p.toNatClampNeg = l.length then (match ev (pg_P pg) lim.toNatClampNeg 160 (ev_l l) 0 0 ((pg_P pg).getD p.toNatClampNeg tr_z) with
    | .ok q => .inr (1, q.1, q.2.2.1, q.2.2.2)
    | .error none => .inr (0, 0, 0, 0)
    | .error (some e) => .inr (e.1, 0, e.2.1, e.2.2)) else .inl "java/lang/IllegalArgumentException"
def rn_W (a k : Nat) : Prop := cx_W a k ∨ (a = 1 ∧ k = 18) ∨ a = 134
def rn_ok (pg : pg_T) (l : List Int32) : Prop := ∀ f lim, f < pg.length → pg_n pg f = l.length → ¬ev (pg_P pg) lim 160 (ev_l l) 0 0 ((pg_P pg).getD f tr_z) = .error none
section Rn
variable {b L M : Nat} {pg : pg_T} {S S' S1 : wd_S} {l : List Int32} {p lim : Int32}
theorem rn_135 {x y : Int32} (h9 : S.1 104 9 = x) (h10 : S.1 104 10 = y) {r v : Int32} : ∃ S', fn_Sp_run_135 r 0 v S = some (.inl r, S') ∧ S'.1 134 0 = v ∧ S'.1 134 1 = x ∧ S'.1 134 2 = y ∧ of_r rn_W cx_R S S' := by
  have t : (tp_t (133 + 1)).2 = 3 := rfl
  unfold fn_Sp_run_135 fn_Runner_steps fn_Runner_deepest
  refine ⟨wd_i (wd_i (wd_i S (133 + 1) 0 v) (133 + 1) 1 x) (133 + 1) 2 y, ?_, ?_, ?_, ?_, ?_⟩
  · rw [ro_put_ok, wd_d_s, show (0 : Int32) = Int32.ofNat 0 from rfl, ro_pn t (show 0 < 3 by decide), wd_c_s, ro_put_ok, wd_d_s, fr_ne (by omega), h9, show (1 : Int32) = Int32.ofNat 1 from rfl, ro_pn t (show 1 < 3 by decide), wd_c_s, ro_put_ok, wd_d_s, fr_ne (by omega), fr_ne (by omega), h10, show (2 : Int32) = Int32.ofNat 2 from rfl, ro_pn t (show 2 < 3 by decide)]
  · rw [fr_ne (by omega), fr_ne (by omega), fr_eq]
  · rw [fr_ne (by omega), fr_eq]
  · rw [fr_eq]
  · exact ofr_i (by unfold rn_W; omega) (ofr_i (by unfold rn_W; omega) (ofr_i (by unfold rn_W; omega) ofr_refl))
theorem sp_run18 (hb : cb_ok b L M) (hM : pg.length ≤ M) (hM2 : (tp_t (b + 16 + 1)).2 = M) (hc : S.1 b 3 = Int32.ofNat pg.length) (hpar : ∀ j, (hj : j < pg.length) → S.1 (b + 17) j = Int32.ofNat pg[j].1 ∧ pg[j].1 ≤ 4) (hP : cg_P b L 96 (pg_P pg) S) (hg : S.1 1 18 = Int32.ofNat l.length) (hl4 : l.length ≤ 4) (hl : ∀ i, (hi : i < l.length) → S.1 132 i = l[i]) (hnn : rn_ok pg l) (hb1 : 1 < b) : match rn pg l p lim with
    | .inl E => fn_Sp_run_18 p lim b S = some (.inr E, wd_n S)
    | .inr r => ∃ S', fn_Sp_run_18 p lim b S = some (.inl r.1, S') ∧ S'.1 1 18 = 0 ∧ S'.1 134 0 = r.2.1 ∧ S'.1 134 1 = Int32.ofNat r.2.2.1 ∧ S'.1 134 2 = Int32.ofNat r.2.2.2 ∧ of_r rn_W cx_R S S' := by
  have hb0 := hb
  obtain ⟨c1, c2, c3, c4, c5, c6, c7⟩ := hb
  have hlen : pg.length < 2147483648 := by omega
  unfold rn fn_Sp_run_18 fn_Bodies_count fn_Sp_run_81
  rw [wd_c_s, hc]
  by_cases h0 : pg.length = 0
  · rw [if_pos h0, if_pos (by rw [h0]; rfl)]
  · rw [if_neg h0, if_neg (show ¬Int32.ofNat pg.length = 0 from fun q => h0 ((im_eq (m := pg.length) (n := 0) hlen (by omega)).mp q)), fo_has, wd_c_s, hc]
    by_cases h1 : p < 0 ∨ ¬p < Int32.ofNat pg.length
    · rw [if_pos h1, if_pos h1, if_pos rfl]
    · rw [if_neg h1, if_neg h1, if_neg (show ¬(1 : Int32) = 0 by decide)]
      have hp0 : ¬p < 0 := fun q => h1 (Or.inl q)
      have hpl : p.toNatClampNeg < pg.length := (im_ltn hp0 hlen).mp (Decidable.byContradiction fun q => h1 (Or.inr q))
      obtain ⟨f, hf⟩ : ∃ f, f = p.toNatClampNeg := ⟨_, rfl⟩
      have ep : p = Int32.ofNat f := by rw [hf]; exact (im_of hp0).symm
      rw [← hf] at hpl ⊢
      by_cases h2 : lim < 0
      · rw [if_pos (Or.inl h2), if_pos h2]
      · by_cases h3 : 20000 < lim
        · rw [if_pos (Or.inr h3), if_neg h2, if_pos h3]
        · rw [if_neg (fun q => q.elim h2 h3), if_neg h2, if_neg h3]
          have hlim : lim.toNatClampNeg ≤ 20000 := by
            have : ¬20000 < lim.toNatClampNeg := fun q => h3 (by
              rw [← im_of h2]
              exact (im_lt (m := 20000) (by omega) (im_tl lim)).mpr q)
            omega
          obtain ⟨n, hn⟩ : ∃ n, n = lim.toNatClampNeg := ⟨_, rfl⟩
          have en : lim = Int32.ofNat n := by rw [hn]; exact (im_of h2).symm
          rw [← hn] at hlim ⊢
          obtain ⟨a1, a2⟩ := hpar f hpl
          have epn : pg_n pg f = pg[f].1 := by
            unfold pg_n
            rw [List.getD_eq_getElem?_getD, List.getElem?_eq_getElem hpl]
            rfl
          rw [fo_params, wd_c_s, hg, ep, ro_an hM2 (show f < M by omega), a1, epn]
          by_cases h4 : pg[f].1 = l.length
          · rw [if_pos h4, if_pos (by rw [h4])]
            have hfP : f < (pg_P pg).length := by rw [pg_P_l]; exact hpl
            have eP : (pg_P pg).getD f tr_z = (pg_P pg)[f] := by rw [List.getD_eq_getElem?_getD, List.getElem?_eq_getElem hfP]; rfl
            have o0 : of_r rn_W cx_R S (wd_i S 1 18 0) := ofr_i (by unfold rn_W; omega) ofr_refl
            have hP0 : cg_P b L 96 (pg_P pg) (wd_i S 1 18 0) := fun j hj => by
              obtain ⟨y, y1, y2⟩ := hP j hj
              exact ⟨y, by rw [fr_ne (by omega)]; exact y1, nd_t_g (nd_rows (fun a h1 h2 => funext fun k => fr_ne (by omega))) _ _ _ y2⟩
            have hw := sp_work (k := f) (p := 131) (l := l) (lim := n) hb0 (by rw [pg_P_l]; exact hM) hfP hP0 hlim rfl (by omega) hl4 (fun i hi => by rw [fr_ne (by omega)]; exact hl i hi)
            have hne := hnn f n hpl (by rw [epn]; exact h4)
            have hge := ev_ge (P := pg_P pg) (lim := n) 160 (ev_l l) 0 0 ((pg_P pg).getD f tr_z)
            rw [eP] at hne hge ⊢
            simp only [wd_b]
            rw [en]
            have fin : ∀ S2 (v : Int32) r x y, of_r cx_W cx_R (wd_i S 1 18 0) S2 → S2.1 104 9 = x → S2.1 104 10 = y → ∃ S', fn_Sp_run_135 r 0 v S2 = some (.inl r, S') ∧ S'.1 1 18 = 0 ∧ S'.1 134 0 = v ∧ S'.1 134 1 = x ∧ S'.1 134 2 = y ∧ of_r rn_W cx_R S S' := fun S2 v r x y o2 q9 q10 => by
              obtain ⟨S', f1, f2, f3, f4, f5⟩ := rn_135 (r := r) (v := v) q9 q10
              refine ⟨S', f1, ?_, f2, f3, f4, ofr_trans o0 (ofr_trans ⟨fun a k q => o2.1 a k (fun z => q (Or.inl z)), fun a k q => o2.2.1 a k (fun z => q (Or.inl z)), o2.2.2.1, o2.2.2.2⟩ f5)⟩
              have h18 : S2.1 1 18 = 0 := by rw [o2.1 1 18 (by unfold cx_W; omega), fr_eq]
              have e134 : fn_Sp_run_135 r 0 v S2 = some (.inl r, wd_i (wd_i (wd_i S2 (133 + 1) 0 v) (133 + 1) 1 x) (133 + 1) 2 y) := by
                have t : (tp_t (133 + 1)).2 = 3 := rfl
                unfold fn_Sp_run_135 fn_Runner_steps fn_Runner_deepest
                rw [ro_put_ok, wd_d_s, show (0 : Int32) = Int32.ofNat 0 from rfl, ro_pn t (show 0 < 3 by decide), wd_c_s, ro_put_ok, wd_d_s, fr_ne (by omega), q9, show (1 : Int32) = Int32.ofNat 1 from rfl, ro_pn t (show 1 < 3 by decide), wd_c_s, ro_put_ok, wd_d_s, fr_ne (by omega), fr_ne (by omega), q10, show (2 : Int32) = Int32.ofNat 2 from rfl, ro_pn t (show 2 < 3 by decide)]
              rw [e134] at f1
              cases f1
              rw [fr_ne (by omega), fr_ne (by omega), fr_ne (by omega)]
              exact h18
            cases he : ev (pg_P pg) n 160 (ev_l l) 0 0 (pg_P pg)[f] with
            | ok q =>
              rw [he] at hw
              obtain ⟨S2, w1, w2, w3, w4, w5⟩ := hw
              obtain ⟨S', g1, g2⟩ := fin S2 q.1 1 _ _ w5 w3 w4
              refine ⟨S', ?_, g2⟩
              rw [w1, wd_c_s, if_pos rfl]
              unfold fn_Runner_result
              rw [wd_c_s, w2]
              exact g1
            | error e =>
              cases e with
              | none => exact absurd he hne
              | some e =>
                rw [he] at hw hge
                obtain ⟨S2, w1, -, w3, w4, w5⟩ := hw
                obtain ⟨S', g1, g2⟩ := fin S2 0 e.1 _ _ w5 w3 w4
                refine ⟨S', ?_, g2⟩
                have n1 : ¬e.1 = 1 := by
                  have hge : e.1 = 2 ∨ e.1 = 3 := hge
                  rcases hge with z | z <;> rw [z] <;> decide
                rw [w1, wd_c_s, if_neg n1]
                exact g1
          · rw [if_neg h4, if_neg (fun q => h4 ((im_eq (by omega) (by omega)).mp q).symm)]
end Rn
