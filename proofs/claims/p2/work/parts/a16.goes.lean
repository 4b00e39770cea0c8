/-! The reference's runner = ev. -/
def mgX (a b : Nat) : Prop := (a = 135 ∧ (b = 35 ∨ b = 44 ∨ (46 ≤ b ∧ b ≤ 52))) ∨ a = 152 ∨ a = 153 ∨ a = 157 ∨ a = 158
section Mg7
variable {lim D s m E vl k s0 a y n lo hi X Rt R2 al ah D0 d r : Nat} {P : List tr_T} {S S' S1 S2 : wd_S} {V V' : ev_V} {t : tr_T} {v x : Int32}
theorem mg_end {F : Nat} (h : ¬S.1 135 52 = 0) : fn_Mo_goes_46 (F + 1) S = some (S.1 135 52, S) := by
  rw [fn_Mo_goes_46, if_neg h, ite_self]
  unfold fn_Mo_goes_416 fn_Mo_goes_431
  rw [if_neg h]
theorem mg_S_s (hS : mg_S lim X lo hi al ah D0 Rt R2 P r) (hR : mg_R lo hi ah Rt R2) : mg_S lim X lo hi al ah D0 Rt R2 P (r + 1) := by
  intro D E vl V s m k y t d S hDr h h1 h2 hE hk hvl hv hP ht
  obtain ⟨w1, -, w3⟩ := gt_work h (by omega) h1 h2
  show mg_O lim D E vl k (mgW k vl E) s 0 (if lim ≤ s then .error (some (2, s, m)) else ev_in P (ev P lim r) V (s + 1) (max m (160 - r)) t) S
  by_cases c : lim ≤ s
  · rw [if_pos c]
    obtain ⟨S', g1, e1, e2, e3, o1⟩ := w1 c
    exact ⟨1, S', g1, by show 1 + 8 * s ≤ 8 * s + 0 + 1; omega, h.2.2.2.2.2.2.2.2.2.1, (show ¬(2 : Int32) = 0 by decide), e1, e2, e3, of_mono (fun a b z => by unfold mgW; omega) o1⟩
  · rw [if_neg c]
    obtain ⟨S1, f1, m1, o1⟩ := w3 c (by omega)
    rw [show 160 - r = D + 1 by omega]
    by_cases ok : ev_ok P.length t
    · have hm := h.2.2.2.2.2.2.2.2.2.2.2.1
      have n1 : mo_no (fun a b => a = 135 ∧ (b = 35 ∨ b = 48 ∨ b = 50 ∨ b = 52)) := fun a b z => by omega
      have hv1 := me_o o1 (fun b _ _ => by omega) hv
      have hP1 := mgP_no hR n1 o1 hP
      have ht1 := mj_no n1 o1 ht
      have fin : ∀ x, (∃ S2, fn_Mo_work_85 (Int32.ofNat y) (Int32.ofNat (max m (D + 1))) S1 = some S2 ∧ of_f (mgW k vl E) S1 S2 ∧ mg_O lim D E vl k (mgW k vl E) (s + 1) 7 x S2) → mg_O lim D E vl k (mgW k vl E) s 0 x S := by
        rintro x ⟨S2, f2, o2, r2⟩
        have := mg_step (W := mgW k vl E) (f1 S2 f2) (of_trans (of_mono (fun a b z => by unfold mgW; omega) o1) o2) r2 (fun _ _ z => z)
        exact mg_a this (by omega)
      unfold ev_in
      rw [if_pos ok]
      cases d with
      | zero => exact absurd ht1 id
      | succ d =>
        obtain ⟨y1, y2, hm1⟩ := ht1
        have hy : y < 15010 := by rcases hR.1 with z | z <;> omega
        have hyr : mg_r y Rt R2 := by
          rcases hR.1 with z | z
          · exact Or.inl ⟨z.1, by omega, z.2.2⟩
          · exact Or.inr ⟨z.1, by omega, by omega, z.2.2.2⟩
        rcases hm1 with ⟨k1, k2, k3, k4⟩ | ⟨k1, k2, k3, k4, -⟩ | ⟨k1, k2, k3, k4, -, z0, z1, p1, p2, p3, p4⟩ | ⟨k1, k2, k3, z0, z1, z2, p1, p2, p3, p4, p5, p6⟩ | ⟨k1, k3, k4, k5, ⟨g, k6, k7⟩, g2, p1, p2, p3, p4⟩ | ⟨k1, k2, k3, k4, z0, z1, p1, p2, p3, p4⟩
        · rw [if_pos k1]
          refine fin _ ?_
          obtain ⟨S2, f2, o2, r2⟩ := gw_num m1 (show k < 4000 by omega) (show max m (D + 1) ≤ 160 by omega) hy k3 k4 hv1
          exact ⟨S2, f2, o2, mg_a r2 (by omega)⟩
        · rw [if_neg (by rw [k1]; decide), if_pos k1]
          cases hq : V (tr_n t) with
          | none => trivial
          | some v =>
            have hn : tr_v t = Int32.ofNat (tr_n t) := by
              rcases ok with q | ⟨-, q, -⟩ | ⟨q, -⟩ | ⟨q, -⟩ | ⟨q, -⟩ | ⟨q | q | q | q | q, -⟩
              · rw [k1] at q; exact absurd q (by decide)
              · exact q
              all_goals (rw [k1] at q; exact absurd q (by decide))
            refine fin _ ?_
            obtain ⟨S2, f2, o2, r2⟩ := gw_name (n := tr_n t) m1 (show k < 4000 by omega) (show max m (D + 1) ≤ 160 by omega) hy (by omega) k3 (by rw [k4, hn]) hv1 hq
            exact ⟨S2, f2, o2, mg_a r2 (by omega)⟩
        · rw [if_neg (by rw [k1]; decide), if_neg (by rw [k1]; decide), if_pos k1]
          have hn : tr_v t = Int32.ofNat (tr_n t) ∧ tr_n t < 16 := by
            rcases ok with q | ⟨q, -⟩ | ⟨-, q1, q2, -⟩ | ⟨q, -⟩ | ⟨q, -⟩ | ⟨q | q | q | q | q, -⟩
            · rw [k1] at q; exact absurd q (by decide)
            · rw [k1] at q; exact absurd q (by decide)
            · exact ⟨q1, q2⟩
            all_goals (rw [k1] at q; exact absurd q (by decide))
          exact fin _ (gw_let hS hR (by omega) m1 hk hvl (by omega) hy hE k3 p1 p2 (by rw [k4, hn.1]) hn.2 hv1 hP1 p3 p4)
        · rw [if_neg (by rw [k1]; decide), if_neg (by rw [k1]; decide), if_neg (by rw [k1]; decide), if_pos k1]
          exact fin _ (gw_if hS hR (by omega) m1 hk hvl (by omega) hy hE k3 p1 p2 p3 hv1 hP1 p4 p5 p6)
        · rw [if_neg (by rw [k1]; decide), if_neg (by rw [k1]; decide), if_neg (by rw [k1]; decide), if_neg (by rw [k1]; decide), if_pos k1]
          have hn : tr_v t = Int32.ofNat (tr_n t) ∧ tr_n t < P.length := by
            rcases ok with q | ⟨q, -⟩ | ⟨q, -⟩ | ⟨q, -⟩ | ⟨-, -, q1, q2⟩ | ⟨q | q | q | q | q, -⟩
            · rw [k1] at q; exact absurd q (by decide)
            · rw [k1] at q; exact absurd q (by decide)
            · rw [k1] at q; exact absurd q (by decide)
            · rw [k1] at q; exact absurd q (by decide)
            · exact ⟨q1, q2⟩
            all_goals (rw [k1] at q; exact absurd q (by decide))
          have e146 : S1.1 146 y = Int32.ofNat (X + tr_n t) := by
            rw [k7, Int32.ofNat_add, ← k6, hn.1, ← Int32.ofNat_add]
          have hah := hR.2
          exact fin _ (gw_call (g := g2) (d := d) hS hR (by omega) m1 hk hvl (by omega) hyr hE k5 hn.2 (by omega) k3 p1 k4 e146 hv1 hP1 p4)
        · have nn : ∀ c : Int32, c = 1 ∨ c = 2 ∨ c = 3 ∨ c = 4 ∨ c = 5 → ¬tr_k t = c := fun c hc q => by
            rw [q] at k1
            rcases hc with z | z | z | z | z <;> rw [z] at k1 <;> exact absurd k1 (by decide)
          rw [if_neg (nn 1 (by decide)), if_neg (nn 2 (by decide)), if_neg (nn 3 (by decide)), if_neg (nn 4 (by decide)), if_neg (nn 5 (by decide))]
          exact fin _ (gw_sign hS hR (by omega) m1 hk hvl (by omega) hy hE k1 k3 p1 p2 k4 hv1 hP1 p3 p4)
    · unfold ev_in
      rw [if_neg ok]
      trivial
theorem mg_S_0 : mg_S lim X lo hi al ah D0 Rt R2 P 0 := by
  intro D E vl V s m k y t d S hDr h h1 h2 hE hk hvl hv hP ht
  obtain ⟨w1, w2, -⟩ := gt_work h (by omega) h1 h2
  show mg_O lim D E vl k (mgW k vl E) s 0 (if lim ≤ s then .error (some (2, s, m)) else .error (some (3, s, m))) S
  by_cases c : lim ≤ s
  · rw [if_pos c]
    obtain ⟨S', g1, e1, e2, e3, o1⟩ := w1 c
    exact ⟨1, S', g1, by show 1 + 8 * s ≤ 8 * s + 0 + 1; omega, h.2.2.2.2.2.2.2.2.2.1, (show ¬(2 : Int32) = 0 by decide), e1, e2, e3, of_mono (fun a b z => by unfold mgW; omega) o1⟩
  · rw [if_neg c]
    obtain ⟨S', g1, e1, e2, e3, o1⟩ := w2 c (by omega)
    exact ⟨1, S', g1, by show 1 + 8 * s ≤ 8 * s + 0 + 1; omega, h.2.2.2.2.2.2.2.2.2.1, (show ¬(3 : Int32) = 0 by decide), e1, e2, e3, of_mono (fun a b z => by unfold mgW; omega) o1⟩
theorem mg_all (hR : mg_R lo hi ah Rt R2) : ∀ r, mg_S lim X lo hi al ah D0 Rt R2 P r := by
  intro r
  induction r with
  | zero => exact mg_S_0
  | succ r ih => exact mg_S_s ih hR
theorem mo_goes (hR : mg_R lo hi ah Rt R2) (hP : mg_P X lo hi al ah D0 Rt R2 P S) (ht : mj_t S X lo hi al ah d y t) (hv : me_e 0 V S) (hlim : lim ≤ 20000) : match ev P lim 160 V 0 0 t with
    | .error none => True
    | .error (some e) => ∃ S', fn_Mo_goes (Int32.ofNat y) (Int32.ofNat lim) S = some (e.1, S') ∧ ¬e.1 = 0 ∧ S'.1 135 48 = Int32.ofNat e.2.1 ∧ S'.1 135 51 = Int32.ofNat e.2.2 ∧ of_f mgX S S'
    | .ok q => ∃ S', fn_Mo_goes (Int32.ofNat y) (Int32.ofNat lim) S = some (1, S') ∧ S'.1 135 47 = q.1 ∧ S'.1 135 48 = Int32.ofNat q.2.2.1 ∧ S'.1 135 51 = Int32.ofNat q.2.2.2 ∧ of_f mgX S S' := by
  generalize hS8 : wd_i (wd_i (wd_i (wd_i (wd_i (wd_i (wd_i (wd_i S 135 35 0) 135 44 0) 135 46 0) 135 48 0) 135 49 (Int32.ofNat lim)) 135 50 0) 135 51 0) 135 52 0 = S8
  have o8 : of_f (fun a b => a = 135 ∧ (b = 35 ∨ b = 44 ∨ b = 46 ∨ b = 48 ∨ b = 49 ∨ b = 50 ∨ b = 51 ∨ b = 52)) S S8 := by
    rw [← hS8]
    exact of_i (by omega) (of_i (by omega) (of_i (by omega) (of_i (by omega) (of_i (by omega) (of_i (by omega) (of_i (by omega) (of_i (by omega) of_refl)))))))
  have h8 : mv_h lim 0 0 0 0 0 0 S8 := by
    rw [← hS8]
    refine ⟨?_, ?_, ?_, ?_, ?_, ?_, ?_, fr_eq, hlim, by omega, by omega, by omega, by omega⟩
    · rw [fr_ne (by omega), fr_ne (by omega), fr_ne (by omega), fr_ne (by omega), fr_ne (by omega), fr_ne (by omega), fr_ne (by omega), fr_eq]; rfl
    · rw [fr_ne (by omega), fr_ne (by omega), fr_ne (by omega), fr_ne (by omega), fr_ne (by omega), fr_ne (by omega), fr_eq]; rfl
    · rw [fr_ne (by omega), fr_ne (by omega), fr_ne (by omega), fr_ne (by omega), fr_ne (by omega), fr_eq]; rfl
    · rw [fr_ne (by omega), fr_ne (by omega), fr_ne (by omega), fr_ne (by omega), fr_eq]; rfl
    · rw [fr_ne (by omega), fr_ne (by omega), fr_ne (by omega), fr_eq]
    · rw [fr_ne (by omega), fr_ne (by omega), fr_eq]; rfl
    · rw [fr_ne (by omega), fr_eq]; rfl
  generalize hS9 : ms_p 0 1 (Int32.ofNat y) S8 = S9
  have h9 : mv_h lim 0 0 0 0 0 (0 + 1) S9 := by rw [← hS9]; exact mv_push h8
  have o89 : of_f (mw_p 0) S8 S9 := by rw [← hS9]; exact ms_o
  have o9 : of_f (fun a b => (a = 135 ∧ (b = 35 ∨ b = 44 ∨ b = 46 ∨ b = 48 ∨ b = 49 ∨ b = 50 ∨ b = 51 ∨ b = 52)) ∨ a = 152 ∨ a = 153) S S9 := of_trans (of_mono (fun a b z => Or.inl z) o8) (of_mono (fun a b z => by unfold mw_p at z; omega) o89)
  have n9 : mo_no (fun a b => (a = 135 ∧ (b = 35 ∨ b = 44 ∨ b = 46 ∨ b = 48 ∨ b = 49 ∨ b = 50 ∨ b = 51 ∨ b = 52)) ∨ a = 152 ∨ a = 153) := fun a b z => by omega
  have eg : fn_Mo_goes (Int32.ofNat y) (Int32.ofNat lim) S = fn_Mo_goes_46 wd_F S9 := by
    unfold fn_Mo_goes
    simp only [wd_b]
    rw [hS8, ms_push h8.1 (by decide), wd_d_s, hS9]
  have hr := mg_all (lim := lim) (P := P) (X := X) (al := al) (D0 := D0) hR 160 0 0 0 V 0 0 0 y t d S9 rfl h9 (by rw [← hS9, ms_152, if_pos rfl]) (by rw [← hS9, ms_153, if_pos rfl]) (Nat.le_refl _) (by omega) (by omega) (me_o o9 (fun b _ _ => by omega) hv) (mgP_no hR n9 o9 hP) (mj_no n9 o9 ht)
  have oX : ∀ S', of_f (mgW 0 0 0) S9 S' → of_f mgX S S' := fun S' o => of_trans (of_mono (fun a b z => by unfold mgX; omega) o9) (of_mono (fun a b z => by unfold mgW at z; unfold mgX; omega) o)
  cases hq : ev P lim 160 V 0 0 t with
  | error e =>
    cases e with
    | none => trivial
    | some e =>
      rw [hq] at hr
      obtain ⟨g, S', k1, k2, k3, k4, k5, k6, k7, k8⟩ := hr
      have k1 := k1 (wd_F - g - 1 + 1)
      rw [show wd_F - g - 1 + 1 + g = wd_F by rw [show wd_F = 1000000 from rfl]; omega] at k1
      exact ⟨S', by rw [eg, k1, mg_end (by rw [k5]; exact k4), k5], k4, k6, k7, oX S' k8⟩
  | ok q =>
    rw [hq] at hr
    obtain ⟨g, S', k1, k2, k3, k4, k5, k6⟩ := hr
    have hs := k3.2.2.2.2.2.2.2.2.2.1
    have k1 := k1 (wd_F - g - 1 + 1)
    rw [show wd_F - g - 1 + 1 + g = wd_F by rw [show wd_F = 1000000 from rfl]; omega] at k1
    refine ⟨S', ?_, k4, k3.2.2.2.1, k3.2.2.2.2.2.2.1, oX S' k6⟩
    rw [eg, k1, fn_Mo_goes_46, k3.1, if_neg (show ¬(0 : Int32) < Int32.ofNat 0 by decide)]
    unfold fn_Mo_goes_416 fn_Mo_goes_431
    rw [if_pos k3.2.2.2.2.2.2.2.1]
end Mg7
