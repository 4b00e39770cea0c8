/-! run(): the reference. -/
def rr (x : Except ev_E ev_O) : Int32 × Int32 × Nat × Nat := match x with
  | .ok q => (1, q.1, q.2.2.1, q.2.2.2)
  | .error none => (0, 0, 0, 0)
  | .error (some e) => (e.1, 0, e.2.1, e.2.2)
def mr_W (a b : Nat) : Prop := mgX a b ∨ (a = 135 ∧ (b = 0 ∨ (95 ≤ b ∧ b ≤ 98)))
def mr_c (E : String) : Int32 := if E = "java/lang/IllegalStateException" then 1 else if E = "java/lang/IndexOutOfBoundsException" then 2 else 3
section Rm
variable {X lo hi al ah D0 d Rt R2 x y n h B : Nat} {P : List tr_T} {t : tr_T} {S S' S1 S2 : wd_S} {l : List Int32} {l1 p lim : Int32} {pg ds : pg_T}
theorem mr_167 (hl4 : l.length ≤ 4) (hg : S.1 135 95 = Int32.ofNat l.length) (hl : ∀ i, (hi : i < l.length) → S.1 179 i = l[i]) {l3 l5 : Int32} : ∀ (q i F : Nat) (S1 : wd_S), i + q = l.length → of_f (fun a b => a = 158) S S1 → (∀ j, j < i → (hj : j < l.length) → S1.1 158 j = l[j]) → ∃ S', fn_Mo_run_167 (F + 1 + q) l1 l3 l5 (Int32.ofNat i) S1 = fn_Mo_run_167 (F + 1) l1 l3 l5 (Int32.ofNat l.length) S' ∧ of_f (fun a b => a = 158) S S' ∧ ∀ j, (hj : j < l.length) → S'.1 158 j = l[j] := by
  intro q
  induction q with
  | zero =>
    intro i F S1 hi ho hb
    exact ⟨S1, by rw [show i = l.length by omega], ho, fun j hj => hb j (by omega) hj⟩
  | succ q ih =>
    intro i F S1 hi ho hb
    have e95 : S1.1 135 95 = Int32.ofNat l.length := by rw [ho.1 135 95 (by omega)]; exact hg
    have e179 : S1.1 179 i = l[i] := by rw [ho.1 179 i (by omega)]; exact hl i (by omega)
    obtain ⟨S2, f2, o2, b2⟩ := ih (i + 1) F (wd_i S1 158 i (l[i]'(by omega))) (by omega) (of_i rfl ho) (fun j hj hjl => by
      by_cases e : j = i
      · subst e; rw [fr_eq]
      · rw [fr_ne (by omega)]
        exact hb j (by omega) hjl)
    refine ⟨S2, ?_, o2, b2⟩
    show fn_Mo_run_167 (F + 1 + q + 1) l1 l3 l5 (Int32.ofNat i) S1 = _
    rw [fn_Mo_run_167, e95, if_pos ((im_lt (by omega) (by omega)).mpr (by omega)), if_neg (ms_in (show i < 4 by omega) (by decide)), if_neg (ms_in (show i < 2640 by omega) (by decide)), im_t (show i < 2147483648 by omega), e179, im_s]
    exact f2
theorem mr_run (hl4 : l.length ≤ 4) (hg : S.1 135 95 = Int32.ofNat l.length) (hl : ∀ i, (hi : i < l.length) → S.1 179 i = l[i]) (hx : (l1 = 0 ∧ Rt = 140 ∧ x < 96) ∨ (¬l1 = 0 ∧ Rt = 162 ∧ x < 160)) (hy : S.1 Rt x = Int32.ofNat y) (hR : mg_R lo hi ah Rt R2) (hP : mg_P X lo hi al ah D0 Rt R2 P S) (ht : mj_t S X lo hi al ah d y t) (hn : n ≤ 20000) (hnn : ¬ev P n 160 (ev_l l) 0 0 t = .error none) : ∃ S', fn_Mo_run_152 l1 (Int32.ofNat n) (Int32.ofNat x) 0 S = some ((rr (ev P n 160 (ev_l l) 0 0 t)).1, S') ∧ S'.1 135 0 = 0 ∧ S'.1 135 95 = 0 ∧ S'.1 135 96 = (rr (ev P n 160 (ev_l l) 0 0 t)).2.1 ∧ S'.1 135 97 = Int32.ofNat (rr (ev P n 160 (ev_l l) 0 0 t)).2.2.1 ∧ S'.1 135 98 = Int32.ofNat (rr (ev P n 160 (ev_l l) 0 0 t)).2.2.2 ∧ of_f mr_W S S' := by
  have o0 : of_f (fun a b => a = 135 ∧ b = 0) S (wd_i S 135 0 0) := of_i ⟨rfl, rfl⟩ of_refl
  obtain ⟨S2, f2, o2, b2⟩ := mr_167 (S := wd_i S 135 0 0) (l1 := l1) (l3 := Int32.ofNat n) (l5 := Int32.ofNat x) hl4 (by rw [o0.1 135 95 (by omega)]; exact hg) (fun i hi => by rw [o0.1 179 i (by omega)]; exact hl i hi) l.length 0 (999999 - l.length) (wd_i S 135 0 0) (by omega) of_refl (fun j hj => absurd hj (Nat.not_lt_zero _))
  rw [show 999999 - l.length + 1 + l.length = wd_F by rw [show wd_F = 1000000 from rfl]; omega] at f2
  have e95 : S2.1 135 95 = Int32.ofNat l.length := by rw [o2.1 135 95 (by omega), o0.1 135 95 (by omega)]; exact hg
  generalize hS3 : wd_i S2 135 95 0 = S3
  have o3 : of_f (fun a b => a = 135 ∧ b = 95) S2 S3 := by rw [← hS3]; exact of_i ⟨rfl, rfl⟩ of_refl
  have o : of_f (fun a b => (a = 135 ∧ (b = 0 ∨ b = 95)) ∨ a = 158) S S3 := of_trans (of_mono (fun a b q => by omega) o0) (of_trans (of_mono (fun a b q => by omega) o2) (of_mono (fun a b q => by omega) o3))
  have no : mo_no (fun a b => (a = 135 ∧ (b = 0 ∨ b = 95)) ∨ a = 158) := fun a b q => by omega
  have y3 : S3.1 Rt x = Int32.ofNat y := by rw [o.1 Rt x (by omega)]; exact hy
  have h0 : S3.1 135 0 = 0 := by rw [← hS3, fr_ne (by omega), o2.1 135 0 (by omega), fr_eq]
  have h95 : S3.1 135 95 = 0 := by rw [← hS3, fr_eq]
  have hgo := mo_goes (lim := n) (V := ev_l l) hR (mgP_no hR no o hP) (mj_no no o ht) (fun s v hv => by
    unfold ev_l at hv
    obtain ⟨q1, q2⟩ := List.getElem?_eq_some_iff.mp hv
    refine ⟨by omega, ?_⟩
    rw [show 16 * 0 + s = s by omega, ← hS3, fr_ne (by omega), b2 s q1, q2]) hn
  have ecode : fn_Mo_run_152 l1 (Int32.ofNat n) (Int32.ofNat x) 0 S = fn_Mo_run_223 (Int32.ofNat n) (Int32.ofNat y) S3 := by
    unfold fn_Mo_run_152
    simp only [wd_b]
    rw [fr_eq, if_neg (show ¬(0 : Int32) < 0 by decide)]
    have f2 : fn_Mo_run_167 wd_F l1 (Int32.ofNat n) (Int32.ofNat x) 0 (wd_i S 135 0 0) = _ := f2
    rw [f2, fn_Mo_run_167, e95, if_neg Int32.lt_irrefl]
    simp only [wd_b]
    rw [hS3]
    rcases hx with ⟨x1, x2, x3⟩ | ⟨x1, x2, x3⟩
    · rw [if_pos x1, if_neg (ms_in x3 (by decide)), im_t (show x < 2147483648 by omega), ← x2, y3]
    · rw [if_neg x1, if_neg (ms_in x3 (by decide)), im_t (show x < 2147483648 by omega), ← x2, y3]
  rw [ecode]
  unfold fn_Mo_run_223
  have fin : ∀ S4 (r v : Int32) (u w : Nat), of_f mgX S3 S4 → S4.1 135 48 = Int32.ofNat u → S4.1 135 51 = Int32.ofNat w → ∃ S', fn_Mo_run_244 r v S4 = some (r, S') ∧ S'.1 135 0 = 0 ∧ S'.1 135 95 = 0 ∧ S'.1 135 96 = v ∧ S'.1 135 97 = Int32.ofNat u ∧ S'.1 135 98 = Int32.ofNat w ∧ of_f mr_W S S' := fun S4 r v u w o4 q1 q2 => by
    refine ⟨wd_i (wd_i (wd_i S4 135 96 v) 135 97 (Int32.ofNat u)) 135 98 (Int32.ofNat w), ?_, ?_, ?_, ?_, ?_, fr_eq, ?_⟩
    · unfold fn_Mo_run_244
      simp only [wd_b]
      rw [fr_ne (by omega), q1, fr_ne (by omega), fr_ne (by omega), q2]
    · rw [fr_ne (by omega), fr_ne (by omega), fr_ne (by omega), o4.1 135 0 (by unfold mgX; omega)]; exact h0
    · rw [fr_ne (by omega), fr_ne (by omega), fr_ne (by omega), o4.1 135 95 (by unfold mgX; omega)]; exact h95
    · rw [fr_ne (by omega), fr_ne (by omega), fr_eq]
    · rw [fr_ne (by omega), fr_eq]
    · exact of_i (by unfold mr_W; omega) (of_i (by unfold mr_W; omega) (of_i (by unfold mr_W; omega) (of_trans (of_mono (fun a b q => by unfold mr_W mgX; omega) o) (of_mono (fun a b q => Or.inl q) o4))))
  cases he : ev P n 160 (ev_l l) 0 0 t with
  | ok q =>
    rw [he] at hgo
    obtain ⟨S4, g1, g2, g3, g4, g5⟩ := hgo
    obtain ⟨S', k1, k2⟩ := fin S4 1 q.1 _ _ g5 g3 g4
    refine ⟨S', ?_, k2⟩
    rw [g1, wd_c_s, if_pos rfl, g2]
    exact k1
  | error e =>
    cases e with
    | none => exact absurd he hnn
    | some e =>
      have hge := ev_ge (P := P) (lim := n) 160 (ev_l l) 0 0 t
      rw [he] at hgo hge
      obtain ⟨S4, g1, -, g3, g4, g5⟩ := hgo
      obtain ⟨S', k1, k2⟩ := fin S4 e.1 0 _ _ g5 g3 g4
      refine ⟨S', ?_, k2⟩
      have n1 : ¬e.1 = 1 := by
        have hge : e.1 = 2 ∨ e.1 = 3 := hge
        rcases hge with z | z <;> rw [z] <;> decide
      rw [g1, wd_c_s, if_neg n1]
      exact k1
theorem rn_rr : rn pg l p lim = if pg.length = 0 then .inl "java/lang/IllegalStateException" else if p < 0 ∨ ¬p < Int32.ofNat pg.length then .inl "java/lang/IndexOutOfBoundsException" else if lim < 0 ∨ 20000 < lim then .inl "java/lang/IllegalArgumentException" else if pg_n pg p.toNatClampNeg = l.length then .inr (rr (ev (pg_P pg) lim.toNatClampNeg 160 (ev_l l) 0 0 ((pg_P pg).getD p.toNatClampNeg tr_z))) else .inl "java/lang/IllegalArgumentException" := by
  unfold rn rr
  congr 1
  congr 1
  congr 1
  congr 1
  cases ev (pg_P pg) lim.toNatClampNeg 160 (ev_l l) 0 0 ((pg_P pg).getD p.toNatClampNeg tr_z) with
  | ok q => rfl
  | error e =>
    cases e with
    | none => rfl
    | some e => rfl
/-- the tests behind that of the function -/
theorem mr_117 (hl4 : l.length ≤ 4) (hg : S.1 135 95 = Int32.ofNat l.length) (hl : ∀ i, (hi : i < l.length) → S.1 179 i = l[i]) (hx : (l1 = 0 ∧ Rt = 140 ∧ x < 96) ∨ (¬l1 = 0 ∧ Rt = 162 ∧ x < 160)) (hy : S.1 Rt x = Int32.ofNat y) (hR : mg_R lo hi ah Rt R2) (hP : mg_P X lo hi al ah D0 Rt R2 P S) (ht : mj_t S X lo hi al ah d y t) {np : Nat} (hnp : np ≤ 4) (hnn : np = l.length → ∀ n, ¬ev P n 160 (ev_l l) 0 0 t = .error none) : match (if lim < 0 ∨ 20000 < lim then .inl "java/lang/IllegalArgumentException" else if np = l.length then .inr (rr (ev P lim.toNatClampNeg 160 (ev_l l) 0 0 t)) else .inl "java/lang/IllegalArgumentException" : String ⊕ (Int32 × Int32 × Nat × Nat)) with
    | .inl E => fn_Mo_run_117 l1 lim 1 (Int32.ofNat x) (Int32.ofNat np) S = some (0, wd_i S 135 0 (mr_c E))
    | .inr r => ∃ S', fn_Mo_run_117 l1 lim 1 (Int32.ofNat x) (Int32.ofNat np) S = some (r.1, S') ∧ S'.1 135 0 = 0 ∧ S'.1 135 95 = 0 ∧ S'.1 135 96 = r.2.1 ∧ S'.1 135 97 = Int32.ofNat r.2.2.1 ∧ S'.1 135 98 = Int32.ofNat r.2.2.2 ∧ of_f mr_W S S' := by
  have c3 : mr_c "java/lang/IllegalArgumentException" = 3 := by decide
  have e3 : fn_Mo_run_152 l1 lim (Int32.ofNat x) 3 S = some (0, wd_i S 135 0 3) := by
    unfold fn_Mo_run_152
    simp only [wd_b]
    rw [fr_eq, if_pos (show (0 : Int32) < 3 by decide)]
  have hin := sm_in (p := lim) (S := S) 0 20000
  have hin : fn_Mo_within lim.toInt64 0 20000 S = some (if lim < 0 ∨ 20000 < lim then 0 else 1, S) := hin
  unfold fn_Mo_run_117 fn_Mo_run_147
  rw [if_neg (show ¬(1 : Int32) = 0 by decide), hin, wd_c_s]
  by_cases h1 : lim < 0 ∨ 20000 < lim
  · rw [if_pos h1, if_pos h1, if_pos rfl]
    dsimp only
    rw [c3]
    exact e3
  · rw [if_neg h1, if_neg h1, if_neg (show ¬(1 : Int32) = 0 by decide), hg]
    have h2 : ¬lim < 0 := fun q => h1 (Or.inl q)
    have hlim : lim.toNatClampNeg ≤ 20000 := by
      have : ¬20000 < lim.toNatClampNeg := fun q => h1 (Or.inr (by
        rw [← im_of h2]
        exact (im_lt (m := 20000) (by omega) (im_tl lim)).mpr q))
      omega
    by_cases h4 : np = l.length
    · rw [if_pos h4, if_pos (by rw [h4])]
      obtain ⟨n, hn⟩ : ∃ n, n = lim.toNatClampNeg := ⟨_, rfl⟩
      have en : lim = Int32.ofNat n := by rw [hn]; exact (im_of h2).symm
      rw [← hn] at hlim ⊢
      rw [en]
      exact mr_run hl4 hg hl hx hy hR hP ht hlim (hnn h4 n)
    · rw [if_neg h4, if_neg (fun q => h4 ((im_eq (by omega) (by omega)).mp q).symm)]
      dsimp only
      rw [c3]
      exact e3
end Rm
