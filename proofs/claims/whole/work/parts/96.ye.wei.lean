/-! stage three, the reference's: what is weighed -/
def uw (u u' : mo_S) : Prop := (∀ k, k ≠ 35 → k ≠ 56 → u'.1 k = u.1 k) ∧ u'.2.2 = u.2.2
theorem uw.refl (u : mo_S) : uw u u := ⟨fun _ _ _ => rfl, rfl⟩
theorem uw.trans {u u' u'' : mo_S} (h : uw u u') (h' : uw u' u'') : uw u u'' := ⟨fun k a b => (h'.1 k a b).trans (h.1 k a b), h'.2.trans h.2⟩
theorem uw.us {u u' : mo_S} (h : uw u u') : us u u' := ⟨fun k a _ _ d => h.1 k a d, fun k _ => by rw [h.2]⟩
def KS (ty : Nat → Int32) (B : Nat → Nat → Int32) (u : mo_S) (r : Option (Nat × (Nat × Nat))) : Prop := match r with
  | none => u.2.1 = -1
  | some p => u.2.1 = lN p.1 ∧ u.1 35 = nI p.2.1 ∧ u.1 56 = mt (ty p.2.2) (B 9 p.2.1)
theorem neg_d {a b : Nat} (ha : a ≤ 2) (hb : b ≤ 2) : (0 ≤ nI b - nI a → nI b - nI a = nI (dfr a b)) ∧ (¬ 0 ≤ nI b - nI a → -(nI b - nI a) = nI (dfr a b)) ∧ dfr a b ≤ 2 := by
  have key : ∀ a, a < 3 → ∀ b, b < 3 → (0 ≤ nI b - nI a → nI b - nI a = nI (dfr a b)) ∧ (¬ 0 ≤ nI b - nI a → -(nI b - nI a) = nI (dfr a b)) ∧ dfr a b ≤ 2 := by decide +kernel
  exact key a (by omega) b (by omega)
def shf (R m : Nat) (p : Nat × Nat) : Nat × (Nat × Nat) := (R * 9018009 + p.1, (m, p.2))
section
variable {z : Nat} {D : gk_M} {rn mn ln n na : Nat} {P : Nat → Int32} {B : Nat → Nat → Int32} {t : sd_S} {u : mo_S} {ty : Nat → Int32} {qs : Nat → Nat} {C : Nat → Bool}
theorem ms_w138 {r : Option (Nat × (Nat × Nat))} (hK : KS ty B u r) (hr : ∀ p, r = some p → p.1 < 2 ^ 31) {W m k : Nat} (hW : W < 2 ^ 31) {s0 : Int64} {s1 : Int32} (hs : s0 - s1.toInt64 = lN W) : ∃ u', uw u u' ∧ fn_Mo_weigh_138 (some (z + 27)) (nI m) (mt (ty k) (B 9 m)) s0 s1 (me z D t u) = some (me z D t u') ∧ KS ty B u' (fs r (some (W, (m, k)))) := by
  have upd_ok : ∃ u', uw u u' ∧ u' = (upd (upd u.1 56 (mt (ty k) (B 9 m))) 35 (nI m), lN W, u.2.2) ∧ KS ty B u' (some (W, (m, k))) := by
    refine ⟨(upd (upd u.1 56 (mt (ty k) (B 9 m))) 35 (nI m), lN W, u.2.2), ⟨fun k a b => ?_, rfl⟩, rfl, rfl, ?_, ?_⟩
    · exact (pk_un a).trans (pk_un b)
    · exact pk_us (f := upd u.1 56 (mt (ty k) (B 9 m))) (k := 35) (x := nI m)
    · exact (pk_un (f := upd u.1 56 (mt (ty k) (B 9 m))) (k := 35) (j := 56) (x := nI m) (by decide)).trans (pk_us (f := u.1) (k := 56))
  cases r with
  | none =>
    have h1 : ¬ lg_cmp (lN W) u.2.1 ≤ 0 := by
      rw [lg_cmp_le, show u.2.1 = -1 from hK, Int64.le_iff_toInt_le, lN_toInt hW, show (-1 : Int64).toInt = -1 by decide]
      omega
    obtain ⟨u', g1, g2, g3⟩ := upd_ok
    refine ⟨u', g1, ?_, g3⟩
    rw [g2]
    simp only [fn_Mo_weigh_138, mo_gl_55, Option.bind_some, hs, if_neg h1, mo_pl_55, mo_pf_56, mo_pf_35]
  | some p =>
    obtain ⟨k1, k2, k3⟩ := hK
    have hp := hr p rfl
    by_cases c : p.1 < W
    · have h1 : ¬ lg_cmp (lN W) u.2.1 ≤ 0 := by
        rw [lg_cmp_le, k1, lN_le hW hp]
        omega
      obtain ⟨u', g1, g2, g3⟩ := upd_ok
      refine ⟨u', g1, ?_, ?_⟩
      · rw [g2]
        simp only [fn_Mo_weigh_138, mo_gl_55, Option.bind_some, hs, if_neg h1, mo_pl_55, mo_pf_56, mo_pf_35]
      · simp only [fs, if_pos c]
        exact g3
    · have h1 : lg_cmp (lN W) u.2.1 ≤ 0 := by
        rw [lg_cmp_le, k1, lN_le hW hp]
        omega
      refine ⟨u, uw.refl u, ?_, ?_⟩
      · simp only [fn_Mo_weigh_138, mo_gl_55, Option.bind_some, hs, if_pos h1]
      · simp only [fs, if_neg c]
        exact ⟨k1, k2, k3⟩
theorem ms_weigh (hM : MM rn mn ln n P B u) (h12 : mn ≤ 12) {m k : Nat} (hm : m < mn) (hmr : mrg rn B m) {x : Int32} (hty : isTy (ty k) = true) (hq : qs k ≤ 1000) {r : Option (Nat × (Nat × Nat))} (hK : KS ty B u r) (hr : ∀ p, r = some p → p.1 < 2 ^ 31) : ∃ u', uw u u' ∧ fn_Mo_weigh (some (z + 27)) (nI m) x (ty k) (nI (qs k)) (me z D t u) = some (me z D t u') ∧ KS ty B u' (fs r ((wo ty qs (B 9 m) (qy B m) k).map (shf (if (!decide (x = 0)) = true then rk (B 8 m) else 0) m))) := by
  have e8 : gk_il (me z D t u) 0 (some (z + 33)) (nI m) = some (B 8 m) := by rw [mo_il_8 (by omega), hM.2.2.2.2.2 8 (by decide)]
  have e9 : gk_il (me z D t u) 0 (some (z + 34)) (nI m) = some (B 9 m) := by rw [mo_il_9 (by omega), hM.2.2.2.2.2 9 (by decide)]
  obtain ⟨q1, q2⟩ := qy_of hmr
  have e10 : gk_il (me z D t u) 0 (some (z + 35)) (nI m) = some (nI (qy B m)) := by rw [mo_il_10 (by omega), hM.2.2.2.2.2 10 (by decide), q1]
  have h8 := hmr.2.2.1
  have h9 := hmr.2.2.2.1
  by_cases hq0 : 0 < qs k
  · rcases bool_or (cv (B 9 m) (ty k) || cv (ty k) (B 9 m)) with hc | hc
    · have hn : wo ty qs (B 9 m) (qy B m) k = none := by
        unfold wo ac
        rw [hc, Bool.false_and, if_neg (by decide)]
      refine ⟨u, uw.refl u, ?_, by rw [hn]; exact hK⟩
      simp only [fn_Mo_weigh, mo_gr_9, Option.bind_some, e9, if_neg (nI_ne0 hq0 (by omega)), ms_meet h9 hty, b2_0, hc, if_true]
    · obtain ⟨m1, m2, m3⟩ := mt_c hty h9 hc
      have hs : wo ty qs (B 9 m) (qy B m) k = some (wN (ty k) (qs k) (B 9 m) (qy B m), k) := by
        unfold wo ac
        rw [hc, Bool.true_and, decide_eq_true hq0, if_pos rfl]
      obtain ⟨d1, d2, d3⟩ := neg_d (rk_le (ty k)) (rk_le (B 9 m))
      generalize hRR : (if (!decide (x = 0)) = true then rk (B 8 m) else 0) = R
      have hR2 : R ≤ 2 := by
        rw [← hRR]
        split
        · exact rk_le _
        · omega
      have hwN := wN_lt (ty := ty k) (p := B 9 m) hq q2
      have hkey : ∀ s : Int32, s = nI (dfr (rk (ty k)) (rk (B 9 m))) → (((3 : Int64) * (((1001 : Int64) * (((1001 : Int64) * (((3 : Int64) * lN R) + (nI (rk (mt (ty k) (B 9 m)))).toInt64)) + (nI (qs k)).toInt64)) + (nI (qy B m)).toInt64)) + (2 : Int64)) - s.toInt64 = lN (R * 9018009 + wN (ty k) (qs k) (B 9 m) (qy B m)) := by
        intro s hs
        subst hs
        have := rk_le (mt (ty k) (B 9 m))
        rw [nI_l (by omega), nI_l (by omega), nI_l (by omega), nI_l (by omega), show (3 : Int64) = lN 3 from rfl, show (1001 : Int64) = lN 1001 from rfl, show (2 : Int64) = lN 2 from rfl]
        rw [lN_mul, lN_add, lN_mul, lN_add, lN_mul, lN_add, lN_mul, lN_add, lN_sub (by omega)]
        congr 1
        unfold wN
        omega
      have h138 := fun (s : Int32) (hs : s = nI (dfr (rk (ty k)) (rk (B 9 m)))) => ms_w138 (z := z) (D := D) (t := t) (k := k) (m := m) hK hr (W := R * 9018009 + wN (ty k) (qs k) (B 9 m) (qy B m)) (by omega) (hkey s hs)
      rw [hs, Option.map_some]
      have h70 : ∀ s0 : Int64, s0 = lN R → ∃ u', uw u u' ∧ fn_Mo_weigh_70 (some (z + 27)) (nI m) (nI (qs k)) (mt (ty k) (B 9 m)) (nI (rk (B 9 m)) - nI (rk (ty k))) s0 (me z D t u) = some (me z D t u') ∧ KS ty B u' (fs r (some (shf R m (wN (ty k) (qs k) (B 9 m) (qy B m), k)))) := by
        intro s0 hs0
        subst hs0
        by_cases cz : 0 ≤ nI (rk (B 9 m)) - nI (rk (ty k))
        · obtain ⟨u', g1, g2, g3⟩ := h138 _ (d1 cz)
          refine ⟨u', g1, ?_, g3⟩
          simp only [fn_Mo_weigh_70, ms_rank m3, Option.bind_some, mo_gr_10, e10, if_pos cz]
          exact g2
        · obtain ⟨u', g1, g2, g3⟩ := h138 _ (d2 cz)
          refine ⟨u', g1, ?_, g3⟩
          simp only [fn_Mo_weigh_70, ms_rank m3, Option.bind_some, mo_gr_10, e10, if_neg cz]
          exact g2
      have h38 : ∃ u', uw u u' ∧ fn_Mo_weigh_38 (some (z + 27)) (nI m) x (ty k) (nI (qs k)) (B 9 m) (mt (ty k) (B 9 m)) (me z D t u) = some (me z D t u') ∧ KS ty B u' (fs r (some (shf R m (wN (ty k) (qs k) (B 9 m) (qy B m), k)))) := by
        by_cases hx : x = 0
        · obtain ⟨u', g1, g2, g3⟩ := h70 0 (by rw [← hRR, decide_eq_true hx]; rfl)
          refine ⟨u', g1, ?_, g3⟩
          simp only [fn_Mo_weigh_38, ms_rank h9, ms_rank hty, Option.bind_some, if_pos hx]
          exact g2
        · obtain ⟨u', g1, g2, g3⟩ := h70 (nI (rk (B 8 m))).toInt64 (by
            have := rk_le (B 8 m)
            rw [← hRR, decide_eq_false hx, Bool.not_false, if_pos rfl, nI_l (by omega)])
          refine ⟨u', g1, ?_, g3⟩
          simp only [fn_Mo_weigh_38, ms_rank h9, ms_rank hty, Option.bind_some, if_neg hx, mo_gr_8, e8, ms_rank h8]
          exact g2
      obtain ⟨u', g1, g2, g3⟩ := h38
      refine ⟨u', g1, ?_, g3⟩
      rw [← g2, m1]
      simp only [fn_Mo_weigh, mo_gr_9, Option.bind_some, e9, if_neg (nI_ne0 hq0 (by omega)), ms_meet h9 hty, ms_covers h9 hty, b2_0]
      rw [if_neg (by rw [hc]; decide)]
      rcases bool_or (cv (B 9 m) (ty k)) with hv | hv
      · rw [if_pos hv, if_neg (by rw [hv]; decide)]
      · rw [if_neg (by rw [hv]; decide), if_pos hv]
  · have hqz : qs k = 0 := by omega
    have hn : wo ty qs (B 9 m) (qy B m) k = none := by
      unfold wo ac
      rw [decide_eq_false hq0, Bool.and_false, if_neg (by decide)]
    refine ⟨u, uw.refl u, ?_, by rw [hn]; exact hK⟩
    rw [hqz]
    simp only [fn_Mo_weigh, mo_gr_9, Option.bind_some, e9, if_pos nI_0]
end
