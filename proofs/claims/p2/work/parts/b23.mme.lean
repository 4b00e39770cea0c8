/-! The reference's make(), whole. -/
section Mme
variable {B h : Nat} {pg ds : pg_T} {S0 S S' S1 S2 S3 S9 : wd_S} {s s' : mk_S} {k n mn ma ml mn' ma' y z d r c p i f m a g K V : Nat} {t : tr_T} {x v : Int32} {kn : Nat → Int32}
theorem md_o (hB : B ≤ 1) (ho : of_f (fun a b => mm_F B 0 0 mn ma a b ∨ (162 ≤ a ∧ a ≤ 164 ∧ b = 80 * B + ds.length)) S S') (hmn : mn ≤ mn') (hma : ma ≤ ma') (h : md_D B mn ma ds S) : md_D B mn' ma' ds S' := fun j hj => by
  obtain ⟨y, h1, h2, h3, h4⟩ := h j hj
  have w : ∀ a, 162 ≤ a → a ≤ 164 → S'.1 a (80 * B + j) = S.1 a (80 * B + j) := fun a q1 q2 => ho.1 a _ (by unfold mm_F; omega)
  exact ⟨y, by rw [w 162 (by omega) (by omega)]; exact h1, mj_t_m (Nat.le_refl _) (by omega) (Nat.le_refl _) (by omega) (mj_g_o ho (fun a x q1 q2 q3 q4 => by unfold mm_F; omega) (fun x q1 q2 => by unfold mm_F; omega)) _ _ _ h2, by rw [w 163 (by omega) (by omega)]; exact h3, by rw [w 164 (by omega) (by omega)]; exact h4⟩
theorem me_F_w (hk : k < 80) : ∀ a b, (mm_F B 0 0 mn ma a b ∨ (162 ≤ a ∧ a ≤ 164 ∧ b = 80 * B + k)) → me_F B a b := fun a b q => by
  rcases q with q | q
  · exact Or.inl (mm_F_le (Nat.le_refl _) (Nat.le_refl _) (Nat.zero_le _) (Nat.zero_le _) a b q)
  · exact Or.inr (by omega)
theorem mo_lp : ∀ (F k : Nat) (ds : pg_T) (s : mk_S) (mn ma G : Nat) (S : wd_S), F + k = 79 → mm_X B h pg S → mb_h B h pg s mn ma S → ds.length = k → k ≤ s.1.length → md_D B mn ma ds S → match mk_lp pg F k ds s with
    | .error none => True
    | .error (some _) => ∃ S', fn_Mo_make_172 (G + 1 + F) (Int32.ofNat k) S = fn_Mo_make_208 S' ∧ ¬S'.1 135 73 = 0 ∧ of_f (me_F B) S S'
    | .ok q => ∃ S' mn' ma', fn_Mo_make_172 (G + 1 + F) (Int32.ofNat k) S = fn_Mo_make_208 S' ∧ mb_h B h pg q.2 mn' ma' S' ∧ md_D B mn' ma' q.1 S' ∧ q.1.length = q.2.1.length ∧ of_f (me_F B) S S' := by
  intro F
  induction F with
  | zero => intro k ds s mn ma G S _ _ _ _ _ _; trivial
  | succ F ih =>
    intro k ds s mn ma G S hF hX hh hdl hkl hD
    have hB := hX.1
    have hpl := hX.2.2.2.2.1
    have hlv := mk_ok_len hh.2.2.2.2.2.2.2.2.2.2.1
    have e64 := hX.2.2.1
    have e65 := hh.2.2.2.2.2.2.2.2.2.1
    have e73 := hh.2.2.2.2.2.1
    unfold mk_lp
    show match (match s.1[k]? with | none => .ok (ds, s) | some v => _ : Except mk_E (pg_T × mk_S)) with
      | .error none => True
      | .error (some _) => ∃ S', fn_Mo_make_172 (G + 1 + F + 1) (Int32.ofNat k) S = fn_Mo_make_208 S' ∧ ¬S'.1 135 73 = 0 ∧ of_f (me_F B) S S'
      | .ok q => ∃ S' mn' ma', fn_Mo_make_172 (G + 1 + F + 1) (Int32.ofNat k) S = fn_Mo_make_208 S' ∧ mb_h B h pg q.2 mn' ma' S' ∧ md_D B mn' ma' q.1 S' ∧ q.1.length = q.2.1.length ∧ of_f (me_F B) S S'
    have e8 : (80 : Int32) * Int32.ofNat B + Int32.ofNat k = Int32.ofNat (80 * B + k) := by rw [show (80 : Int32) = Int32.ofNat 80 from rfl, im_ma]
    rw [fn_Mo_make_172, e65, e64, e8]
    by_cases hk : k < s.1.length
    · rw [List.getElem?_eq_getElem hk]
      dsimp only
      rw [if_pos ((im_lt (by omega) (by omega)).mpr hk), if_pos e73, im_s]
      have hmv := mo_mv hX hh hk
      cases hm : mk pg 96 (mk_e (pg_n pg s.1[k].1) s.1[k]) s ((pg_P pg).getD s.1[k].1 tr_z) with
      | error e =>
        rw [hm] at hmv
        cases e with
        | none => trivial
        | some e =>
          obtain ⟨S1, f1, g1, o1⟩ := hmv
          rw [f1, wd_d_s]
          refine ⟨S1, ?_, g1, o1⟩
          rw [show G + 1 + F = G + F + 1 by omega, fn_Mo_make_172, if_neg g1, ite_self]
      | ok q =>
        rw [hm] at hmv
        obtain ⟨S1, mn1, ma1, f1, h1, l1, l2, ⟨y1, y2, y3⟩, y4, y5, o1⟩ := hmv
        rw [f1, wd_d_s]
        have oA : of_f (me_F B) S S1 := of_mono (me_F_w (by omega)) o1
        have hX1 := me_X hX oA
        have hD1 : md_D B mn1 ma1 ds S1 := md_o hB (by rw [hdl]; exact o1) l1 l2 hD
        have := ih (k + 1) (ds ++ [(mk_lf s.1[k].2.1 (pg_n pg s.1[k].1), q.1.1, q.1.2.1, q.1.2.2)]) q.2.2 mn1 ma1 G S1 (by omega) hX1 h1 (by rw [List.length_append]; show ds.length + 1 = k + 1; omega) (Nat.lt_of_lt_of_le hk (mk_pre _ _ _ _ _ hm).length_le) (fun j hj => by
          rw [List.length_append] at hj
          have hj : j < ds.length + 1 := hj
          by_cases e : j = ds.length
          · subst e
            rw [List.getElem_append_right (Nat.le_refl _)]
            simp only [Nat.sub_self, List.getElem_cons_zero]
            rw [hdl]
            exact ⟨y1, y2, y3, y4, y5⟩
          · rw [List.getElem_append_left (show j < ds.length by omega)]
            exact hD1 j (by omega))
        show match mk_lp pg F (k + 1) (ds ++ [(mk_lf s.1[k].2.1 (pg_n pg s.1[k].1), q.1.1, q.1.2.1, q.1.2.2)]) q.2.2 with
          | .error none => True
          | .error (some _) => ∃ S', fn_Mo_make_172 (G + 1 + F) (Int32.ofNat (k + 1)) S1 = fn_Mo_make_208 S' ∧ ¬S'.1 135 73 = 0 ∧ of_f (me_F B) S S'
          | .ok q => ∃ S' mn' ma', fn_Mo_make_172 (G + 1 + F) (Int32.ofNat (k + 1)) S1 = fn_Mo_make_208 S' ∧ mb_h B h pg q.2 mn' ma' S' ∧ md_D B mn' ma' q.1 S' ∧ q.1.length = q.2.1.length ∧ of_f (me_F B) S S'
        cases hq : mk_lp pg F (k + 1) (ds ++ [(mk_lf s.1[k].2.1 (pg_n pg s.1[k].1), q.1.1, q.1.2.1, q.1.2.2)]) q.2.2 with
        | error e =>
          rw [hq] at this
          cases e with
          | none => trivial
          | some e =>
            obtain ⟨S4, e4, n4, o4⟩ := this
            exact ⟨S4, e4, n4, of_trans oA o4⟩
        | ok w =>
          rw [hq] at this
          obtain ⟨S4, mn4, ma4, e4, h4, d4, l4, o4⟩ := this
          exact ⟨S4, mn4, ma4, e4, h4, d4, l4, of_trans oA o4⟩
    · have hk2 : k = s.1.length := by omega
      rw [List.getElem?_eq_none (by omega)]
      dsimp only
      exact ⟨S, mn, ma, by rw [hk2, if_neg Int32.lt_irrefl], hh, hD, by omega, of_refl⟩
theorem mk_mod : ∀ m, m < 16 → ∀ n, n < 5 → mk_mk (mk_bt m) n = m % 2 ^ n := by decide +kernel
/-- what is KNOWN -/
theorem mo_108 (hm : m < 16) (ha : a ≤ 4) (hg : g < 96) (h138 : S.1 138 g = Int32.ofNat a) (hk : kn_is m S) (h174 : ∀ i, i < 4 → S.1 174 i = kn i) : ∀ (r i F : Nat) (S1 : wd_S), i + r = a → of_f (fun a b => a = 171) S S1 → (∀ j, j < i → S1.1 171 j = kn j) → ∃ S', fn_Mo_make_108 (F + 1 + r) (Int32.ofNat g) (Int32.ofNat (mk_mk (mk_bt m) i)) (Int32.ofNat i) S1 = fn_Mo_make_108 (F + 1) (Int32.ofNat g) (Int32.ofNat (m % 2 ^ a)) (Int32.ofNat a) S' ∧ of_f (fun a b => a = 171) S S' ∧ ∀ j, j < a → S'.1 171 j = kn j := by
  intro r
  induction r with
  | zero =>
    intro i F S1 hi ho hj
    have hi : i = a := hi
    subst hi
    exact ⟨S1, by rw [Nat.add_zero, mk_mod m hm i (by omega)], ho, hj⟩
  | succ r ih =>
    intro i F S1 hi ho hj
    have fin : ∃ S', fn_Mo_make_138 (fn_Mo_make_108 (F + 1 + r)) (Int32.ofNat g) (Int32.ofNat i) (Int32.ofNat (mk_mk (mk_bt m) i)) (if mk_bt m i = true then ((1 : Int32) <<< (Int32.ofNat i &&& 31)) else 0) S1 = fn_Mo_make_108 (F + 1) (Int32.ofNat g) (Int32.ofNat (m % 2 ^ a)) (Int32.ofNat a) S' ∧ of_f (fun a b => a = 171) S S' ∧ ∀ j, j < a → S'.1 171 j = kn j := by
      have eo : Int32.ofNat (mk_mk (mk_bt m) i) ||| (if mk_bt m i = true then ((1 : Int32) <<< (Int32.ofNat i &&& 31)) else 0) = Int32.ofNat (mk_mk (mk_bt m) (i + 1)) := by
        show _ = Int32.ofNat (mk_mk (mk_bt m) i + (if mk_bt m i = true then 2 ^ i else 0))
        cases mk_bt m i with
        | true => rw [if_pos (rfl : true = true), if_pos (rfl : true = true)]; exact mk_i_or i (by omega) _ (mk_mk_lt _ i)
        | false => rw [if_neg (show ¬false = true by decide), if_neg (show ¬false = true by decide), Nat.add_zero, Int32.or_zero]
      unfold fn_Mo_make_138
      simp only [wd_b]
      rw [if_neg (ms_in (show i < 4 by omega) (by decide)), if_neg (ms_in (show i < 4 by omega) (by decide)), im_t (show i < 2147483648 by omega), eo, im_s, ho.1 174 i (by omega), h174 i (by omega)]
      refine ih (i + 1) F _ (by omega) (of_i rfl ho) (fun j h1 => ?_)
      by_cases e : j = i
      · rw [e, fr_eq]
      · rw [fr_ne (by omega)]; exact hj j (by omega)
    show ∃ S', fn_Mo_make_108 (F + 1 + r + 1) (Int32.ofNat g) (Int32.ofNat (mk_mk (mk_bt m) i)) (Int32.ofNat i) S1 = _ ∧ _
    rw [fn_Mo_make_108, if_neg (ms_in hg (by decide)), im_t (show g < 2147483648 by omega), ho.1 138 g (by omega), h138, if_pos ((im_lt (by omega) (by omega)).mpr (by omega)), if_neg (ms_in (show i < 4 by omega) (by decide)), im_t (show i < 2147483648 by omega), ho.1 173 i (by omega), hk i (by omega)]
    by_cases e : m / 2 ^ i % 2 = 1
    · have eb : mk_bt m i = true := decide_eq_true e
      rw [eb, if_pos (rfl : true = true)] at fin
      rw [if_pos e, if_neg (show ¬(1 : Int32) = 0 by decide)]
      exact fin
    · have eb : mk_bt m i = false := decide_eq_false e
      rw [eb, if_neg (show ¬false = true by decide)] at fin
      rw [if_neg e, if_pos rfl]
      exact fin
theorem mo_273 : ∀ (r i F : Nat) (S1 : wd_S), i + r = 4 → of_f (fun a b => a = 173) S S1 → (∀ j, j < i → S1.1 173 j = 0) → ∃ S', fn_Mo_make_273 (F + 1 + r) (Int32.ofNat i) S1 = some (S.1 135 59, S') ∧ of_f (fun a b => a = 173) S S' ∧ ∀ j, j < 4 → S'.1 173 j = 0 := by
  intro r
  induction r with
  | zero =>
    intro i F S1 hi ho hj
    have hi : i = 4 := hi
    subst hi
    refine ⟨S1, ?_, ho, hj⟩
    rw [Nat.add_zero, fn_Mo_make_273, if_neg (show ¬Int32.ofNat 4 < 4 by decide), ho.1 135 59 (by omega)]
  | succ r ih =>
    intro i F S1 hi ho hj
    show ∃ S', fn_Mo_make_273 (F + 1 + r + 1) (Int32.ofNat i) S1 = _ ∧ _
    rw [fn_Mo_make_273, if_pos (show Int32.ofNat i < 4 from (im_lt (m := i) (n := 4) (by omega) (by omega)).mpr (by omega)), if_neg (fun q => by rcases q with q | q; exact ms_in (show i < 4 by omega) (by decide) q; exact q fo_b0)]
    simp only [wd_b]
    rw [im_t (show i < 2147483648 by omega), im_s]
    refine ih (i + 1) F _ (by omega) (of_i rfl ho) (fun j h1 => ?_)
    by_cases e : j = i
    · rw [e, fr_eq]
    · rw [fr_ne (by omega)]; exact hj j (by omega)
/-- what a make() of the reference may write -/
def mf_F (B a b : Nat) : Prop := me_F B a b ∨ (a = 135 ∧ (b = 0 ∨ b = 64))
def mg_F (B a b : Nat) : Prop := mf_F B a b ∨ (a = 135 ∧ (b = 63 ∨ (59 ≤ b ∧ b ≤ 62) ∨ b = 72)) ∨ a = 173
theorem mo_isfn {p : Int32} (h41 : S.1 135 41 = 1) (hh : h ≤ 1) (h42 : S.1 135 42 = Int32.ofNat h) (h150 : S.1 150 h = Int32.ofNat n) (hn : 1 ≤ n) (hn2 : n ≤ 1000) : fn_Mo_isFn p S = some (if p < 0 ∨ ¬p < Int32.ofNat n then 0 else 1, S) := by
  obtain ⟨n, rfl⟩ : ∃ q, n = q + 1 := ⟨n - 1, by omega⟩
  unfold fn_Mo_isFn fn_Mo_isFn_32 fn_Mo_isFn_33
  rw [h41, if_neg (show ¬(1 : Int32) = 0 by decide), h42, if_neg (ms_in (show h < 2 by omega) (by decide)), im_t (show h < 2147483648 by omega), h150, im_p, sm_z, sm_in, wd_c_s]
  have e : (p < 0 ∨ Int32.ofNat n < p) ↔ (p < 0 ∨ ¬p < Int32.ofNat (n + 1)) := by
    by_cases hp : p < 0
    · exact ⟨fun _ => Or.inl hp, fun _ => Or.inl hp⟩
    · have e1 := im_of hp
      have e2 : p.toNatClampNeg < 2147483648 := by have := im_tn hp; have := Int32.toInt_lt p; omega
      constructor
      · intro q
        rcases q with q | q
        · exact Or.inl q
        · refine Or.inr (fun w => ?_)
          rw [← e1] at q w
          have := (im_lt (by omega) e2).mp q
          have := (im_lt e2 (by omega)).mp w
          omega
      · intro q
        rcases q with q | q
        · exact Or.inl q
        · refine Or.inr ?_
          rw [← e1] at q ⊢
          refine (im_lt (by omega) e2).mpr ?_
          have : ¬p.toNatClampNeg < n + 1 := fun w => q ((im_lt e2 (by omega)).mpr w)
          omega
  by_cases hq : p < 0 ∨ Int32.ofNat n < p
  · rw [if_pos hq, if_pos rfl, if_pos fo_b0, if_pos (e.mp hq)]
  · rw [if_neg hq, if_neg (show ¬(1 : Int32) = 0 by decide), if_pos fo_b1, if_neg (fun w => hq (e.mpr w))]
end Mme
