theorem i_m1 {x : Int32} : (-1 ≤ x) = (x = -1 ∨ 0 ≤ x) := by
  rw [Int32.le_iff_toInt_le, Int32.le_iff_toInt_le, Int32.toInt_zero, ← Int32.toInt_inj]
  have e : (-1 : Int32).toInt = -1 := by decide
  rw [e]
  exact propext ⟨fun h => by omega, fun h => by omega⟩
theorem op_parameter (z : Nat) (k i : Int32) : op_ok z (Inv z) (fn_SD_parameter (some z) k i) (fn_Mo_parameter (some (z + 27)) k i) := by
  intro D t u hI
  obtain ⟨pn, ⟨hp, -, -, hpc⟩, -, ⟨n, hn, h1, h2, h3⟩, -⟩ := hI.2.2.2.2.2.2.2.2
  by_cases hw : wi k 0 (nI n - 1) = true
  · obtain ⟨j, hj, rfl⟩ := wi_ix (by omega) hw
    obtain ⟨a, l, hal, ha1, ha2, ha3, ha4⟩ := h3 j hj
    have el : nI (a + l) - nI a = nI l := by rw [pk_sub (by omega)]; congr 1; omega
    by_cases hi : i = -1
    · subst hi
      refine ⟨nI l, D, t, u, ?_, ?_, hI⟩
      · simp only [fn_SD_parameter, sd_gr_0_5, sd_gi_12, Option.bind_some, h1, cs_within, hw, b2_0, sd_gr_19_2, sd_gr_19_3, sd_il_23 (j := j) (by omega), sd_il_24 (j := j) (by omega), Bool.true_eq_false, if_false, ha1, ha3, if_true, el]
      · have hw2 : wi (-1) (-1) (nI l - 1) = true := by
          rw [wi_t]
          refine ⟨by decide, Int32.le_iff_toInt_le.mpr ?_⟩
          rw [show nI l - 1 = nI l - nI 1 from rfl, pk_sub_toInt (by omega) (by omega), show (-1 : Int32).toInt = -1 by decide]
          omega
        have hneg : ¬ (0 : Int32) ≤ -1 := by decide
        simp only [fn_Mo_parameter, mo_gi_42, Option.bind_some, h2, ms_outside, hw, b2_0, mo_gr_44, mo_il_44 (j := j) (by omega), Bool.not_true, if_true, ha4, hw2, if_neg hneg]
    · by_cases hw2 : wi i 0 (nI l - 1) = true
      · obtain ⟨q, hq, rfl⟩ := wi_ix (by omega) hw2
        have hw3 : wi (nI q) (-1) (nI l - 1) = true := by
          rw [wi_t] at hw2 ⊢
          exact ⟨by rw [i_m1]; exact Or.inr hw2.1, hw2.2⟩
        have hpos : (0 : Int32) ≤ nI q := nI_pos' (by omega)
        refine ⟨t.2.1 21 (a + q), D, t, u, ?_, ?_, hI⟩
        · simp only [fn_SD_parameter, sd_gr_0_5, sd_gi_12, Option.bind_some, h1, cs_within, hw, b2_0, sd_gr_19_2, sd_gr_19_3, sd_il_23 (j := j) (by omega), sd_il_24 (j := j) (by omega), Bool.true_eq_false, if_false, ha1, ha3, if_neg hi, el, hw2, sd_gr_19_0, sd_gr_20_0, nI_add, sd_il_21 (j := a + q) (by omega)]
        · simp only [fn_Mo_parameter, mo_gi_42, Option.bind_some, h2, ms_outside, hw, b2_0, mo_gr_44, mo_il_44 (j := j) (by omega), Bool.not_true, if_true, ha4, hw3, if_pos hpos, mo_gr_28, mo_gr_43, mo_il_43 (j := j) (by omega), ha2, nI_add, mo_il_28 (j := a + q) (by omega), (hpc (a + q) (by omega)).1]
      · have hw2 : wi i 0 (nI l - 1) = false := by simpa using hw2
        have hw3 : wi i (-1) (nI l - 1) = false := by
          simp only [wi, decide_eq_false_iff_not] at hw2 ⊢
          rintro ⟨q1, q2⟩
          rw [i_m1] at q1
          rcases q1 with q1 | q1
          · exact hi q1
          · exact hw2 ⟨q1, q2⟩
        refine ⟨-1, D, t, u, ?_, ?_, hI⟩
        · simp only [fn_SD_parameter, sd_gr_0_5, sd_gi_12, Option.bind_some, h1, cs_within, hw, b2_0, sd_gr_19_2, sd_gr_19_3, sd_il_23 (j := j) (by omega), sd_il_24 (j := j) (by omega), Bool.true_eq_false, if_false, ha1, ha3, if_neg hi, el, hw2, if_true]
        · simp only [fn_Mo_parameter, mo_gi_42, Option.bind_some, h2, ms_outside, hw, b2_0, mo_gr_44, mo_il_44 (j := j) (by omega), Bool.not_true, if_true, ha4, hw3, Bool.not_false, Bool.true_eq_false, if_false]
  · have hw : wi k 0 (nI n - 1) = false := by simpa using hw
    exact ⟨-1, D, t, u, by simp only [fn_SD_parameter, sd_gr_0_5, sd_gi_12, Option.bind_some, h1, cs_within, hw, b2_0, if_true], by simp only [fn_Mo_parameter, mo_gi_42, Option.bind_some, h2, ms_outside, hw, b2_0, Bool.not_false, Bool.true_eq_false, if_false], hI⟩
theorem ite_wi {α : Type} (x a b : Int32) (T F : α) : (if x < a then F else if x ≤ b then T else F) = if wi x a b = true then T else F := by
  by_cases h1 : x < a
  · have : ¬ a ≤ x := by rw [i_nle]; exact h1
    simp [h1, wi, this]
  · have h1' : a ≤ x := by rw [← i_nlt]; exact h1
    by_cases h2 : x ≤ b
    · simp [h1, h2, wi, h1']
    · simp [h1, h2, wi]
theorem ite_kc {α : Type} (x : Int32) (T F : α) : (if wi x 97 122 = true then T else if wi x 48 57 = true then T else if x = 47 then T else if x = 123 then T else if x = 125 then T else F) = if kc x = true then T else F := by
  unfold kc
  cases wi x 97 122 <;> cases wi x 48 57 <;> by_cases h5 : x = 47 <;> by_cases h6 : x = 123 <;> by_cases h7 : x = 125 <;> simp [h5, h6, h7]
theorem cs_append (a0 : Option Nat) (x : Int32) (M : gk_M) : fn_Text_append a0 x M = fn_Text_append_47 a0 x (b2 (kc x)) M := by
  unfold fn_Text_append fn_Text_append_12 fn_Text_append_24 fn_Text_append_42
  simp only [ite_wi]
  rw [ite_kc]
  cases kc x <;> rfl
theorem ms_put (a0 : Option Nat) (x : Int32) (M : gk_M) : fn_Mo_put a0 x M = fn_Mo_put_47 a0 x (b2 (kc x)) M := by
  unfold fn_Mo_put fn_Mo_put_12 fn_Mo_put_24 fn_Mo_put_42
  simp only [ite_wi]
  rw [ite_kc]
  cases kc x <;> rfl
theorem kc_nar {x : Int32} (h : kc x = true) : vp_nar .char x = x := by
  have hr : (0 : Int32) ≤ x ∧ x ≤ 125 := by
    unfold kc at h
    simp only [Bool.or_eq_true, wi_t, beq_iff_eq, Int32.le_iff_toInt_le, ← Int32.toInt_inj] at h
    have e1 : (97 : Int32).toInt = 97 := by decide
    have e2 : (122 : Int32).toInt = 122 := by decide
    have e3 : (48 : Int32).toInt = 48 := by decide
    have e4 : (57 : Int32).toInt = 57 := by decide
    have e5 : (47 : Int32).toInt = 47 := by decide
    have e6 : (123 : Int32).toInt = 123 := by decide
    have e7 : (125 : Int32).toInt = 125 := by decide
    rw [e1, e2, e3, e4, e5, e6, e7] at h
    rw [Int32.le_iff_toInt_le, Int32.le_iff_toInt_le, e7, Int32.toInt_zero]
    omega
  obtain ⟨j, hj, rfl⟩ := nI_of2 (n := 125) (M := 125) (by decide) (by rw [i_nlt]; exact hr.1) hr.2
  have := pk_charN (q := j) (by omega)
  unfold vp_nar
  rw [this.1]
theorem op_put (z : Nat) (x : Int32) : op_ok z (Inv z) (fn_SD_put (some z) x) (fn_Mo_put (some (z + 27)) x) := by
  intro D t u hI
  obtain ⟨h0, ⟨n, hn, h1, h2, h3⟩, hr⟩ := hI
  have hsd : fn_SD_put (some z) x (me z D t u) = (fn_Text_append_47 (some (z + 1)) x (b2 (kc x)) (me z D t u)).bind fun w5 => (gk_z w5.1).bind fun q => some (q, w5.2) := by
    simp only [fn_SD_put, sd_gr_0_0, sd_ob_1, Option.bind_some, cs_append]
  rw [hsd]
  by_cases hk : kc x = true
  · by_cases hl : n < 24
    · have hl' : nI n < 24 := nI_lt (a := n) (b := 24) hl (by omega)
      have e10 : ¬ (1 : Int32) = 0 := by decide
      refine ⟨1, D, (upd t.1 0 (nI n + 1), up2 t.2.1 2 n (vp_nar .char x), t.2.2), (upd u.1 1 (nI n + 1), u.2.1, up2 u.2.2 0 n (vp_nar .char x)), ?_, ?_, h0, ?_, hr⟩
      · simp only [fn_Text_append_47, hk, b2_t, if_neg e10, sd_gi_0, Option.bind_some, h1, if_pos hl', sd_gr_1_0, sd_is_2 hl, sd_pf_0, ev_z1]
      · simp only [ms_put, fn_Mo_put_47, hk, b2_t, if_neg e10, mo_gi_1, Option.bind_some, h2, if_pos hl', mo_gr_0, mo_is_0 hl, mo_pf_1, ev_z1]
      · refine ⟨n + 1, by omega, nI_1 n, nI_1 n, fun i hi => ?_⟩
        show up2 t.2.1 2 n (vp_nar .char x) 2 i = up2 u.2.2 0 n (vp_nar .char x) 0 i ∧ kc (up2 t.2.1 2 n (vp_nar .char x) 2 i) = true
        rw [up2_self, up2_self]
        by_cases hin : i = n
        · subst hin
          rw [pk_us, pk_us]
          exact ⟨rfl, by rw [kc_nar hk]; exact hk⟩
        · rw [pk_un hin, pk_un hin]
          exact h3 i (by omega)
    · have hl' : ¬ nI n < 24 := nI_nlt (a := n) (b := 24) (by omega) (by omega)
      have e10 : ¬ (1 : Int32) = 0 := by decide
      refine ⟨0, D, t, u, ?_, ?_, h0, ⟨n, hn, h1, h2, h3⟩, hr⟩
      · simp only [fn_Text_append_47, hk, b2_t, if_neg e10, sd_gi_0, Option.bind_some, h1, if_neg hl', ev_z0]
      · simp only [ms_put, fn_Mo_put_47, hk, b2_t, if_neg e10, mo_gi_1, Option.bind_some, h2, if_neg hl', ev_z0]
  · have hk : kc x = false := by simpa using hk
    refine ⟨0, D, t, u, ?_, ?_, h0, ⟨n, hn, h1, h2, h3⟩, hr⟩
    · simp only [fn_Text_append_47, hk, b2_f, if_true, ev_z0, Option.bind_some]
    · simp only [ms_put, fn_Mo_put_47, hk, b2_f, if_true, ev_z0, Option.bind_some]
