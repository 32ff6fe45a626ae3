theorem wi_ix2 {x a b : Int32} {n : Nat} (hb : b.toInt = n) (ha : 0 ≤ a.toInt) (h : wi x a b = true) : ∃ j : Nat, j ≤ n ∧ x = nI j := by
  rw [wi_t] at h
  refine nI_of2 hb ?_ h.2
  rw [Int32.lt_iff_toInt_lt, Int32.toInt_zero]
  have := Int32.le_iff_toInt_le.mp h.1
  omega
theorem wi_m1 (x : Int32) : wi x (-1) 9 = (x == -1 || wi x 0 9) := by
  by_cases h : x = -1
  · subst h; decide
  · have hb : (x == -1) = false := by simpa using h
    rw [hb, Bool.false_or]
    have e : (-1 ≤ x) ↔ (0 ≤ x) := by rw [i_m1]; simp [h]
    exact decide_eq_decide.mpr (and_congr e Iff.rfl)
theorem i_01 {x : Int32} : (0 ≤ x) = (x = 0 ∨ 1 ≤ x) := by
  rw [Int32.le_iff_toInt_le, Int32.le_iff_toInt_le, Int32.toInt_zero, ← Int32.toInt_inj, Int32.toInt_zero]
  have e : (1 : Int32).toInt = 1 := by decide
  rw [e]
  exact propext ⟨fun h => by omega, fun h => by omega⟩
theorem wi_01 (x : Int32) : wi x 0 15 = (x == 0 || wi x 1 15) := by
  by_cases h : x = 0
  · subst h; decide
  · have hb : (x == 0) = false := by simpa using h
    rw [hb, Bool.false_or]
    have e : (0 ≤ x) ↔ (1 ≤ x) := by rw [i_01]; simp [h]
    exact decide_eq_decide.mpr (and_congr e Iff.rfl)
theorem nar_int (x : Int32) : vp_nar .int x = x := rfl
theorem cs_isThrown (x : Int32) (M : gk_M) : fn_SD_isThrown x M = some (b2 (wi x 1 15), M) := by
  simp only [fn_SD_isThrown, cs_within, Option.bind_some, b2_z]
theorem cs_isStatus (x : Int32) (M : gk_M) : fn_SD_isStatus x M = some (b2 (wi x 100 599), M) := by
  simp only [fn_SD_isStatus, cs_within, Option.bind_some, b2_z]
theorem cs_isVerb (x : Int32) (M : gk_M) : fn_SD_isVerb x M = some (b2 (wi x 0 5), M) := by
  simp only [fn_SD_isVerb, cs_within, Option.bind_some, b2_z]
theorem e10 : ¬ (1 : Int32) = 0 := by decide
theorem cs_mapper (z : Nat) (x y : Int32) (M : gk_M) : fn_SD_mapper (some z) x y M = fn_SD_mapper_23 (some z) x y (b2 (wi x 1 15 && (y == 0 || wi y 100 599))) M := by
  simp only [fn_SD_mapper, cs_isThrown, cs_isStatus, Option.bind_some, b2_0, fn_SD_mapper_22, fn_SD_mapper_18]
  cases wi x 1 15 <;> cases wi y 100 599 <;> by_cases h : y = 0 <;> simp [h, b2]
theorem ms_mapper (a0 : Option Nat) (x y : Int32) (M : gk_M) : fn_Mo_mapper a0 x y M = if (wi x 1 15 && (y == 0 || wi y 100 599)) = true then fn_Mo_mapper_28 a0 x y M else some (0, M) := by
  simp only [fn_Mo_mapper, ms_outside, Option.bind_some, b2_0, ev_z0]
  cases wi x 1 15 <;> cases wi y 100 599 <;> by_cases h : y = 0 <;> simp [h]
theorem op_mapper (z : Nat) (x y : Int32) : op_ok z (Inv z) (fn_SD_mapper (some z) x y) (fn_Mo_mapper (some (z + 27)) x y) := by
  intro D t u hI
  obtain ⟨h0, h1, h2, h3, h4, h5, hm, hr⟩ := hI
  by_cases hc : (wi x 1 15 && (y == 0 || wi y 100 599)) = true
  · have hc' := hc
    rw [Bool.and_eq_true] at hc
    obtain ⟨j, hj, rfl⟩ := wi_ix2 (n := 15) (by decide) (by decide) hc.1
    refine ⟨1, D, (t.1, up2 t.2.1 26 j (vp_nar .int y), t.2.2), (u.1, u.2.1, up2 u.2.2 24 j (vp_nar .int y)), ?_, ?_, h0, h1, h2, h3, h4, h5, ?_, hr⟩
    · simp only [cs_mapper, hc', b2_t, fn_SD_mapper_23, if_neg e10, sd_gr_0_6, Option.bind_some, sd_is_26 (j := j) (by omega), fn_SD_mapper_35, ev_z1]
    · simp only [ms_mapper, if_pos hc', fn_Mo_mapper_28, mo_gr_24, Option.bind_some, mo_is_24 (j := j) (by omega), ev_z1]
    · intro k hk
      show up2 t.2.1 26 j (vp_nar .int y) 26 k = up2 u.2.2 24 j (vp_nar .int y) 24 k ∧ (up2 u.2.2 24 j (vp_nar .int y) 24 k = 0 ∨ wi (up2 u.2.2 24 j (vp_nar .int y) 24 k) 100 599 = true)
      rw [up2_self, up2_self]
      by_cases hkj : k = j
      · subst hkj
        rw [pk_us, pk_us, nar_int]
        refine ⟨rfl, ?_⟩
        rw [Bool.or_eq_true, beq_iff_eq] at hc
        exact hc.2
      · rw [pk_un hkj, pk_un hkj]
        exact hm k hk
  · refine ⟨0, D, t, u, ?_, ?_, h0, h1, h2, h3, h4, h5, hm, hr⟩
    · have hc : (wi x 1 15 && (y == 0 || wi y 100 599)) = false := by simpa using hc
      simp only [cs_mapper, hc, b2_f, fn_SD_mapper_23, if_true, fn_SD_mapper_35, ev_z0, Option.bind_some]
    · simp only [ms_mapper, if_neg hc]
theorem cs_accept (z : Nat) (x y : Int32) {D : gk_M} {t : sd_S} {u : mo_S} {n : Nat} (h : t.1 5 = nI n) (hn : n ≤ 4) : fn_SD_accept (some z) x y (me z D t u) = fn_SD_accept_34 (some z) x y (b2 (decide (n < 4) && (isTy x && wi y 0 1000))) (me z D t u) := by
  simp only [fn_SD_accept, sd_gr_0_3, sd_gi_5, Option.bind_some, h, cs_isType, cs_within, b2_0, fn_SD_accept_33]
  by_cases hl : n < 4
  · have : ¬ (4 : Int32) ≤ nI n := nI_ge (a := n) (b := 4) hl (by omega)
    rw [if_neg this]
    cases isTy x <;> cases wi y 0 1000 <;> simp [hl, b2]
  · have : (4 : Int32) ≤ nI n := nI_le (a := 4) (b := n) (by omega) (by omega)
    rw [if_pos this]
    simp [hl, b2]
theorem op_accept (z : Nat) (x y : Int32) : op_ok z (Inv z) (fn_SD_accept (some z) x y) (fn_Mo_accept (some (z + 27)) x y) := by
  intro D t u hI
  obtain ⟨h0, h1, h2, h3, h4, h5, hm, ⟨n, hn, g1, g2, g3⟩, hr⟩ := hI
  by_cases hc : (decide (n < 4) && (isTy x && wi y 0 1000)) = true
  · have hc' := hc
    simp only [Bool.and_eq_true, decide_eq_true_eq] at hc
    obtain ⟨hl, hty, hw⟩ := hc
    have hl' : nI n < 4 := nI_lt (a := n) (b := 4) hl (by omega)
    refine ⟨1, D, (upd t.1 5 (nI n + 1), up2 (up2 t.2.1 12 n (vp_nar .int x)) 13 n (vp_nar .int y), t.2.2), (upd u.1 25 (nI n + 1), u.2.1, up2 (up2 u.2.2 26 n (vp_nar .int x)) 27 n (vp_nar .int y)), ?_, ?_, h0, h1, h2, h3, h4, h5, hm, ?_, hr⟩
    · simp only [cs_accept z x y g1 hn, hc', b2_t, fn_SD_accept_34, if_neg e10, sd_gr_0_3, sd_ob_11, Option.bind_some, fn_Accepted_add, sd_gr_11_0, sd_gr_11_1, sd_gi_5, g1, sd_is_12 hl, sd_is_13 hl, sd_pf_5, fn_SD_accept_48, ev_z1]
    · simp only [fn_Mo_accept, ms_isType, hty, b2_t, if_neg e10, Option.bind_some, ms_outside, hw, Bool.not_true, b2_f, if_true, mo_gi_25, g2, if_pos hl', mo_gr_26, mo_gr_27, mo_is_26 hl, mo_is_27 hl, mo_pf_25, ev_z1]
    · refine ⟨n + 1, by omega, nI_1 n, nI_1 n, fun k hk => ?_⟩
      show up2 (up2 t.2.1 12 n (vp_nar .int x)) 13 n (vp_nar .int y) 12 k = up2 (up2 u.2.2 26 n (vp_nar .int x)) 27 n (vp_nar .int y) 26 k ∧ up2 (up2 t.2.1 12 n (vp_nar .int x)) 13 n (vp_nar .int y) 13 k = up2 (up2 u.2.2 26 n (vp_nar .int x)) 27 n (vp_nar .int y) 27 k ∧ isTy (up2 (up2 u.2.2 26 n (vp_nar .int x)) 27 n (vp_nar .int y) 26 k) = true ∧ wi (up2 (up2 u.2.2 26 n (vp_nar .int x)) 27 n (vp_nar .int y) 27 k) 0 1000 = true
      rw [up2_self, up2_self, up2_ne _ _ _ (show (12 : Nat) ≠ 13 by decide), up2_ne _ _ _ (show (26 : Nat) ≠ 27 by decide), up2_self, up2_self, up2_ne _ _ _ (show (13 : Nat) ≠ 12 by decide), up2_ne _ _ _ (show (27 : Nat) ≠ 26 by decide)]
      by_cases hkn : k = n
      · subst hkn
        rw [pk_us, pk_us, pk_us, pk_us, nar_int, nar_int]
        exact ⟨rfl, rfl, hty, hw⟩
      · rw [pk_un hkn, pk_un hkn, pk_un hkn, pk_un hkn]
        exact g3 k (by omega)
  · refine ⟨0, D, t, u, ?_, ?_, h0, h1, h2, h3, h4, h5, hm, ⟨n, hn, g1, g2, g3⟩, hr⟩
    · have hc : (decide (n < 4) && (isTy x && wi y 0 1000)) = false := by simpa using hc
      simp only [cs_accept z x y g1 hn, hc, b2_f, fn_SD_accept_34, if_true, fn_SD_accept_48, ev_z0, Option.bind_some]
    · simp only [fn_Mo_accept, ms_isType, ms_outside, Option.bind_some, b2_0, mo_gi_25, g2]
      by_cases hty : isTy x = true
      · by_cases hw : wi y 0 1000 = true
        · have hl : ¬ n < 4 := fun hl => hc (by simp [hl, hty, hw])
          have hl' : ¬ nI n < 4 := nI_nlt (a := n) (b := 4) (by omega) (by omega)
          simp only [hty, hw, Bool.not_true, if_true, if_neg hl', ev_z0, Option.bind_some, Bool.true_eq_false, if_false]
        · have hw : wi y 0 1000 = false := by simpa using hw
          simp only [hty, hw, Bool.not_false, Bool.true_eq_false, if_false, ev_z0, Option.bind_some]
      · have hty : isTy x = false := by simpa using hty
        simp only [hty, if_true, ev_z0, Option.bind_some]
/-! what keeps the other cells -/
def kp (D D' : gk_M) : Prop := ∀ (a : Nat) (x : gk_E), D.1 a = some x → (∀ fs, x ≠ .inr (4, fs)) → D'.1 a = some x
def kq (D D' : gk_M) : Prop := ∀ (a : Nat) (x : gk_E), D.1 a = some x → D'.1 a = some x
theorem kq.kp {D D' : gk_M} (h : kq D D') : kp D D' := fun a x hx _ => h a x hx
theorem kp_ob {D D' : gk_M} (h : kp D D') {ci a : Nat} {fs : List Value} (hc : ci ≠ 4) (ho : gk_ob D ci (some a) = some fs) : gk_ob D' ci (some a) = some fs := by
  obtain ⟨b, hb, hD⟩ := gk_ob_eq ho
  cases hb
  exact gk_ob_of (h a _ hD (fun fs h => by cases h; exact hc rfl))
theorem kq_ob {D D' : gk_M} (h : kq D D') {ci a : Nat} {fs : List Value} (ho : gk_ob D ci (some a) = some fs) : gk_ob D' ci (some a) = some fs := by
  obtain ⟨b, hb, hD⟩ := gk_ob_eq ho
  cases hb
  exact gk_ob_of (h a _ hD)
theorem kp_ia {D D' : gk_M} (h : kp D D') {ty a : Nat} {w : Nat × (Nat → Int32)} (ho : gk_ia D ty (some a) = some w) : gk_ia D' ty (some a) = some w := by
  obtain ⟨n, f⟩ := w
  obtain ⟨b, hb, hD⟩ := gk_ia_eq ho
  cases hb
  exact gk_ia_of (h a _ hD (fun fs h => by cases h))
theorem kp_tpl {D D' : gk_M} (h : kp D D') {z a : Nat} {l : List Int32} (ht : tpl z D a l) : tpl z D' a l := by
  obtain ⟨h1, p, L, g, h2, h3, h4, h5⟩ := ht
  exact ⟨h1, p, L, g, h2, kp_ob h (by decide) h3, kp_ia h h4, h5⟩
theorem kp_tmp {D D' : gk_M} (h : kp D D') {z : Nat} {ro : Option Nat} {sz : Int32} {tx : Nat → Int32} (ht : tmp z D ro sz tx) : tmp z D' ro sz tx := by
  rcases ht with ht | ⟨a, n, h1, h2, h3, h4, h5, h6, h7⟩
  · exact Or.inl ht
  · exact Or.inr ⟨a, n, h1, h2, h3, h4, h5, h6, kp_tpl h h7⟩
theorem kp_res {D D' : gk_M} (h : kp D D') {z : Nat} {s1 : Int32} {P4 : Nat → Option Nat} {v4 : Int32} {B3 B2 : Nat → Int32} (hI : I_res z D s1 P4 v4 B3 B2) : I_res z D' s1 P4 v4 B3 B2 := by
  obtain ⟨rn, h1, h2, h3, h4⟩ := hI
  exact ⟨rn, h1, h2, h3, fun r hr => kp_tmp h (h4 r hr)⟩
theorem kp_loc {D D' : gk_M} (h : kp D D') {z : Nat} {s3 : Int32} {P6 : Nat → Option Nat} {v4 v14 : Int32} {B : Nat → Nat → Int32} (hI : I_loc z D s3 P6 v4 v14 B) : I_loc z D' s3 P6 v4 v14 B := by
  obtain ⟨rn, n, h1, h2, h3, h4, h5, h6⟩ := hI
  refine ⟨rn, n, h1, h2, h3, h4, h5, fun l hl => ?_⟩
  obtain ⟨o, tr, g1, g2, g3, g4, g5, g6⟩ := h6 l hl
  exact ⟨o, tr, g1, g2, kp_ob h (by decide) g3, g4, kp_tmp h g5, g6⟩
theorem kp_fil {D D' : gk_M} (h : kp D D') {z : Nat} {s4 : Int32} {P8 : Nat → Option Nat} {A9 A10 : Nat → Int32} {v17 : Int32} {B : Nat → Nat → Int32} (hI : I_fil z D s4 P8 A9 A10 v17 B) : I_fil z D' s4 P8 A9 A10 v17 B := by
  obtain ⟨n, h1, h2, h3, h4, h5⟩ := hI
  refine ⟨n, h1, h2, h3, fun f hf => ?_, h5⟩
  obtain ⟨o, g1, g2, g3, g4⟩ := h4 f hf
  exact ⟨o, g1, g2, kp_ob h (by decide) g3, g4⟩
theorem kq_met {D D' : gk_M} (h : kq D D') {z : Nat} {s2 : Int32} {P5 : Nat → Option Nat} {v4 v5 : Int32} {B : Nat → Nat → Int32} (hI : I_met z D s2 P5 v4 v5 B) : I_met z D' s2 P5 v4 v5 B := by
  obtain ⟨rn, mn, h1, h2, h3, h4, h5, h6, h7⟩ := hI
  refine ⟨rn, mn, h1, h2, h3, h4, h5, fun m hm => ?_, h7⟩
  obtain ⟨o, tr, g1, g2, g3, g4, g5⟩ := h6 m hm
  exact ⟨o, tr, g1, g2, kq_ob h g3, kp_tmp h.kp g4, g5⟩
theorem kq_nw {z : Nat} {D : gk_M} (h : I_D z D) (x : gk_E) : kq D (gk_nw D x) ∧ I_D z (gk_nw D x) := by
  refine ⟨fun a y ha => ?_, ⟨by show z + 61 ≤ D.2 + 1; have := h.1; omega, fun a ha => ?_⟩⟩
  · show va_up D.1 D.2 (some x) a = some y
    rw [va_up_ne _ _ (fun e => by subst e; rw [h.2 _ (Nat.le_refl _)] at ha; cases ha)]
    exact ha
  · show va_up D.1 D.2 (some x) a = none
    have ha : D.2 + 1 ≤ a := ha
    rw [va_up_ne _ _ (by omega)]
    exact h.2 a (by omega)
theorem pf_ob {D : gk_M} {ci k o : Nat} {fs : List Value} {v : Value} (h : gk_ob D ci (some o) = some fs) (hk : k < fs.length) : gk_pf D ci k (some o) v = some (va_up D.1 o (some (.inr (ci, fs.set k v))), D.2) := by
  obtain ⟨b, hb, hD⟩ := gk_ob_eq h
  cases hb
  exact ev_pf hD hk
theorem ob_up {D : gk_M} {ci o : Nat} {fs : List Value} : gk_ob (va_up D.1 o (some (.inr (ci, fs))), D.2) ci (some o) = some fs := gk_ob_of (va_up_self _ _ _)
