theorem cs_detail (z : Nat) (m c nm th : Int32) {D : gk_M} {t : sd_S} {u : mo_S} {n : Nat} (h : t.1 2 = nI n) : fn_SD_detail (some z) m c nm th (me z D t u) = fn_SD_detail_59 (some z) m c nm th (b2 (wi m 0 (nI n - 1) && (wi c (-1) 9 && (wi nm 0 3 && wi th 0 15)))) (me z D t u) := by
  simp only [fn_SD_detail, sd_gr_0_1, sd_gi_2, Option.bind_some, h, cs_within, b2_0, fn_SD_detail_58, fn_SD_detail_32, fn_SD_detail_54, cs_isThrown, wi_m1, wi_01]
  cases wi m 0 (nI n - 1) <;> cases wi c 0 9 <;> cases wi nm 0 3 <;> cases wi th 1 15 <;> by_cases h1 : c = -1 <;> by_cases h2 : th = 0 <;> simp [h1, h2, b2]
theorem op_detail (z : Nat) (m c nm th : Int32) : op_ok z (Inv z) (fn_SD_detail (some z) m c nm th) (fn_Mo_detail (some (z + 27)) m c nm th) := by
  intro D t u hI
  obtain ⟨h0, h1, h2, ⟨rn, n, q1, q2, q3, q4, q5, q6, q7, q8⟩, h4, h5, hr⟩ := hI
  by_cases hc : (wi m 0 (nI n - 1) && (wi c (-1) 9 && (wi nm 0 3 && wi th 0 15))) = true
  · have hc' := hc
    simp only [Bool.and_eq_true] at hc
    obtain ⟨hw1, hw2, hw3, hw4⟩ := hc
    obtain ⟨j, hj, rfl⟩ := wi_ix (by omega) hw1
    obtain ⟨o, tr, g1, g2, g3, g4, g5⟩ := q6 j hj
    have hf : ∀ fs' : List Value, kp D (va_up D.1 o (some (.inr (4, fs'))), D.2) := by
      intro fs' a x hx hne
      show va_up D.1 o _ a = some x
      rw [va_up_ne _ _ (fun e => by
        subst e
        obtain ⟨b, hb, hD⟩ := gk_ob_eq g3
        cases hb
        rw [hD] at hx
        cases hx
        exact hne _ rfl)]
      exact hx
    have hol : o < D.2 := by
      obtain ⟨b, hb, hD⟩ := gk_ob_eq g3
      cases hb
      exact Nat.lt_of_not_le (fun h => by rw [h0.2 o h] at hD; cases hD)
    refine ⟨1, (va_up D.1 o (some (.inr (4, [.int (u.2.2 6 j), va_rf tr, .int (u.2.2 7 j), .int (u.2.2 8 j), .int (u.2.2 9 j), .int (u.2.2 10 j), .int c, .int nm, .int th]))), D.2), t, (u.1, u.2.1, up2 (up2 (up2 u.2.2 11 j (vp_nar .int c)) 12 j (vp_nar .int nm)) 13 j (vp_nar .int th)), ?_, ?_, ⟨h0.1, fun a ha => ?_⟩, h1, kp_res (hf _) h2, ?_, kp_loc (hf _) h4, kp_fil (hf _) h5, hr⟩
    · simp only [cs_detail z (nI j) c nm th q4, hc', b2_t, fn_SD_detail_59, if_neg e10, sd_gr_0_1, sd_gr_3_1, Option.bind_some, sd_al_5 (j := j) (by omega), g1, dy_pf g2, pf_ob g3 (show 6 < 9 by decide), Option.map_some]
      rw [pf_ob ob_up (by show 7 < 9; decide), Option.map_some, Option.bind_some, dy_pf g2, bx_uu]
      rw [show gk_pf (va_up D.1 o (some (.inr (4, (([.int (u.2.2 6 j), va_rf tr, .int (u.2.2 7 j), .int (u.2.2 8 j), .int (u.2.2 9 j), .int (u.2.2 10 j), .int (u.2.2 11 j), .int (u.2.2 12 j), .int (u.2.2 13 j)] : List Value).set 6 (.int c)).set 7 (.int nm)))), D.2) 4 8 (some o) (.int th) = _ from pf_ob ob_up (by show 8 < 9; decide)]
      simp only [Option.map_some, Option.bind_some, fn_SD_detail_96, ev_z1, bx_uu]
      rfl
    · simp only [fn_Mo_detail, mo_gi_5, q5, Option.bind_some, ms_outside, hw1, hw2, hw3, hw4, Bool.not_true, b2_f, if_true, mo_gr_11, mo_gr_12, mo_gr_13, mo_is_11 (j := j) (by omega), mo_is_12 (j := j) (by omega), mo_is_13 (j := j) (by omega), ev_z1]
    · show va_up D.1 o _ a = none
      have ha : D.2 ≤ a := ha
      rw [va_up_ne _ _ (by omega)]
      exact h0.2 a ha
    · refine ⟨rn, n, q1, q2, q3, q4, q5, fun m' hm' => ?_, q7, fun m' h1' h2' => ?_⟩
      · obtain ⟨o', tr', f1, f2, f3, f4, f5⟩ := q6 m' hm'
        by_cases hmj : m' = j
        · subst hmj
          rw [g1] at f1
          cases f1
          rw [g3] at f3
          refine ⟨o, tr, g1, g2, ?_, kp_tmp (hf _) g4, ?_⟩
          · rw [ob_up]
            show _ = some [Value.int (u.2.2 6 m'), va_rf tr, .int (u.2.2 7 m'), .int (u.2.2 8 m'), .int (u.2.2 9 m'), .int (u.2.2 10 m'), .int (upd (u.2.2 11) m' (vp_nar .int c) m'), .int (upd (u.2.2 12) m' (vp_nar .int nm) m'), .int (upd (u.2.2 13) m' (vp_nar .int th) m')]
            rw [pk_us, pk_us, pk_us]
            rfl
          · obtain ⟨r1, r2, r3, r4, r5, r6, r7, r8⟩ := g5
            refine ⟨r1, r2, r3, r4, r5, ?_, ?_, ?_⟩
            · show wi (upd (u.2.2 11) m' (vp_nar .int c) m') (-1) 9 = true
              rw [pk_us]; exact hw2
            · show wi (upd (u.2.2 12) m' (vp_nar .int nm) m') 0 3 = true
              rw [pk_us]; exact hw3
            · show wi (upd (u.2.2 13) m' (vp_nar .int th) m') 0 15 = true
              rw [pk_us]; exact hw4
        · have hoo : o' ≠ o := fun e => hmj (q7 m' j hm' hj (by rw [f1, g1, e]))
          refine ⟨o', tr', f1, f2, ?_, kp_tmp (hf _) f4, ?_⟩
          · obtain ⟨b, hb, hD⟩ := gk_ob_eq f3
            cases hb
            refine (gk_ob_of (ci := 4) (a := o') (show va_up D.1 o _ o' = _ from (va_up_ne _ _ hoo).trans hD)).trans ?_
            show _ = some [Value.int (u.2.2 6 m'), va_rf tr', .int (u.2.2 7 m'), .int (u.2.2 8 m'), .int (u.2.2 9 m'), .int (u.2.2 10 m'), .int (upd (u.2.2 11) j (vp_nar .int c) m'), .int (upd (u.2.2 12) j (vp_nar .int nm) m'), .int (upd (u.2.2 13) j (vp_nar .int th) m')]
            rw [pk_un hmj, pk_un hmj, pk_un hmj]
          · obtain ⟨r1, r2, r3, r4, r5, r6, r7, r8⟩ := f5
            refine ⟨r1, r2, r3, r4, r5, ?_, ?_, ?_⟩
            · show wi (upd (u.2.2 11) j (vp_nar .int c) m') (-1) 9 = true
              rw [pk_un hmj]; exact r6
            · show wi (upd (u.2.2 12) j (vp_nar .int nm) m') 0 3 = true
              rw [pk_un hmj]; exact r7
            · show wi (upd (u.2.2 13) j (vp_nar .int th) m') 0 15 = true
              rw [pk_un hmj]; exact r8
      · show upd (u.2.2 12) j (vp_nar .int nm) m' = 0 ∧ upd (u.2.2 13) j (vp_nar .int th) m' = 0
        rw [pk_un (by omega), pk_un (by omega)]
        exact q8 m' h1' h2'
  · refine ⟨0, D, t, u, ?_, ?_, h0, h1, h2, ⟨rn, n, q1, q2, q3, q4, q5, q6, q7, q8⟩, h4, h5, hr⟩
    · have hc : (wi m 0 (nI n - 1) && (wi c (-1) 9 && (wi nm 0 3 && wi th 0 15))) = false := by simpa using hc
      simp only [cs_detail z m c nm th q4, hc, b2_f, fn_SD_detail_59, if_true, fn_SD_detail_96, ev_z0, Option.bind_some]
    · simp only [fn_Mo_detail, mo_gi_5, q5, Option.bind_some, ms_outside, b2_0]
      by_cases hw1 : wi m 0 (nI n - 1) = true
      · by_cases hw2 : wi c (-1) 9 = true
        · by_cases hw3 : wi nm 0 3 = true
          · have hw4 : wi th 0 15 = false := by
              cases hx : wi th 0 15 with
              | false => rfl
              | true => exact absurd (by simp [hw1, hw2, hw3, hx]) hc
            simp only [hw1, hw2, hw3, hw4, Bool.not_true, Bool.not_false, if_true, Bool.true_eq_false, if_false, ev_z0, Option.bind_some]
          · have hw3 : wi nm 0 3 = false := by simpa using hw3
            simp only [hw1, hw2, hw3, Bool.not_true, Bool.not_false, if_true, Bool.true_eq_false, if_false, ev_z0, Option.bind_some]
        · have hw2 : wi c (-1) 9 = false := by simpa using hw2
          simp only [hw1, hw2, Bool.not_true, Bool.not_false, if_true, Bool.true_eq_false, if_false, ev_z0, Option.bind_some]
      · have hw1 : wi m 0 (nI n - 1) = false := by simpa using hw1
        simp only [hw1, Bool.not_false, Bool.true_eq_false, if_false, ev_z0, Option.bind_some]
