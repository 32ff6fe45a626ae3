/-- a call: both answer the same, each changes its own cells alone, and what holds between them holds again -/
def op_ok (z : Nat) (Inv : gk_M → sd_S → mo_S → Prop) (f g : gk_M → Option (Int32 × gk_M)) : Prop := ∀ (D : gk_M) (t : sd_S) (u : mo_S), Inv D t u → ∃ (r : Int32) (D' : gk_M) (t' : sd_S) (u' : mo_S), f (me z D t u) = some (r, me z D' t' u) ∧ g (me z D' t' u) = some (r, me z D' t' u') ∧ Inv D' t' u'
theorem op_use {z : Nat} {Inv : gk_M → sd_S → mo_S → Prop} {f g : gk_M → Option (Int32 × gk_M)} (h : op_ok z Inv f g) {D : gk_M} {t : sd_S} {u : mo_S} (hI : Inv D t u) (k : gk_M → Option Unit) (hk : ∀ (D' : gk_M) (t' : sd_S) (u' : mo_S), Inv D' t' u' → k (me z D' t' u') = some ()) : ((gk_ob (me z D t u) 0 (some z)).bind fun _ => (f (me z D t u)).bind fun w => (gk_ob w.2 12 (some (z + 27))).bind fun _ => (g w.2).bind fun w2 => if w.1 = w2.1 then k w2.2 else none) = some () := by
  obtain ⟨r, D', t', u', h1, h2, h3⟩ := h D t u hI
  rw [sd_ob_0, Option.bind_some, h1, Option.bind_some]
  show ((gk_ob (me z D' t' u) 12 (some (z + 27))).bind fun _ => (g (me z D' t' u)).bind fun w2 => if r = w2.1 then k w2.2 else none) = some ()
  rw [mo_ob, Option.bind_some, h2, Option.bind_some]
  show (if r = r then k (me z D' t' u') else none) = some ()
  rw [if_pos rfl]
  exact hk D' t' u' h3
theorem sc_at {xs : Nat → Int32} {ln j : Nat} (h : j < ln) (hl : ln < 2 ^ 31) : gk_sc xs ln (nI j) = some (xs j) := by
  unfold gk_sc
  rw [if_pos (nI_in h hl), nI_clamp (by omega)]
set_option maxHeartbeats 4000000 in
theorem law_loop (z ln : Nat) (xs : Nat → Int32) (Inv : gk_M → sd_S → mo_S → Prop) (hln : ln ≤ 3072) (h0 : Inv (fun _ => none, z + 61) t_0 u_0) (o0 : ∀ v1 : Int32, op_ok z Inv (fn_SD_put (some z) (((v1).toUInt32 % 65536).toInt32)) (fn_Mo_put (some (z + 27)) (((v1).toUInt32 % 65536).toInt32))) (o1 : ∀ v1 : Int32, v1 = 0 ∨ v1 = 1 → op_ok z Inv (fn_SD_resource (some z) v1) (fn_Mo_resource (some (z + 27)) v1)) (o2 : ∀ v1 v2 v3 v4 v5 : Int32, op_ok z Inv (fn_SD_method (some z) v1 v2 v3 v4 v5) (fn_Mo_method (some (z + 27)) v1 v2 v3 v4 v5)) (o3 : ∀ v1 v2 v3 v4 : Int32, op_ok z Inv (fn_SD_detail (some z) v1 v2 v3 v4) (fn_Mo_detail (some (z + 27)) v1 v2 v3 v4)) (o4 : ∀ v1 v2 : Int32, op_ok z Inv (fn_SD_locator (some z) v1 v2) (fn_Mo_locator (some (z + 27)) v1 v2)) (o5 : ∀ v1 v2 v3 v4 v5 : Int32, op_ok z Inv (fn_SD_filter (some z) v1 v2 v3 v4 v5) (fn_Mo_filter (some (z + 27)) v1 v2 v3 v4 v5)) (o6 : ∀ v1 v2 : Int32, op_ok z Inv (fn_SD_mapper (some z) v1 v2) (fn_Mo_mapper (some (z + 27)) v1 v2)) (o7 : ∀ v1 v2 : Int32, op_ok z Inv (fn_SD_accept (some z) v1 v2) (fn_Mo_accept (some (z + 27)) v1 v2)) (o8 : ∀ v1 v2 v3 : Int32, op_ok z Inv (fn_SD_request (some z) v1 v2 v3) (fn_Mo_request (some (z + 27)) v1 v2 v3)) (o9 : op_ok z Inv (fn_SD_invoked (some z) ) (fn_Mo_invoked (some (z + 27)) )) (o10 : op_ok z Inv (fn_SD_argument (some z) ) (fn_Mo_argument (some (z + 27)) )) (o11 : ∀ v1 : Int32, op_ok z Inv (fn_SD_hop (some z) v1) (fn_Mo_hop (some (z + 27)) v1)) (o12 : ∀ v1 v2 : Int32, op_ok z Inv (fn_SD_parameter (some z) v1 v2) (fn_Mo_parameter (some (z + 27)) v1 v2)) (o13 : op_ok z Inv (fn_SD_allowed (some z) ) (fn_Mo_allowed (some (z + 27)) )) (o14 : op_ok z Inv (fn_SD_produced (some z) ) (fn_Mo_produced (some (z + 27)) )) (o15 : ∀ v1 : Int32, op_ok z Inv (fn_SD_ran (some z) v1) (fn_Mo_ran (some (z + 27)) v1)) : fn_Law_law_18 xs ln (some z) (some (z + 27)) 0 (me z (fun _ => none, z + 61) t_0 u_0) = some () := by
  unfold fn_Law_law_18
  refine ev_loop (fun a => ∃ (i : Nat) (D : gk_M) (t : sd_S) (u : mo_S), a = (some z, some (z + 27), nI (6 * i), me z D t u) ∧ Inv D t u ∧ 6 * i ≤ ln + 6) (fun a => (ln + 6 - a.2.2.1.toNatClampNeg) / 6) (fun _ => ()) ?_ 600 _ ⟨0, _, t_0, u_0, rfl, h0, by omega⟩ (by show (ln + 6 - (0 : Int32).toNatClampNeg) / 6 < 600; rw [show (0 : Int32).toNatClampNeg = 0 from rfl]; omega)
  rintro kk _ ⟨i, D, t, u, rfl, hI, hi⟩ hk
  show fn_Law_law_18_bd xs ln (fun a1 a2 x3 M => kk (a1, a2, x3, M)) (some z) (some (z + 27)) (nI (6 * i)) (me z D t u) = some ()
  have hnx : ∀ (D' : gk_M) (t' : sd_S) (u' : mo_S), 6 * i + 6 ≤ ln → Inv D' t' u' → fn_Law_law_628 xs ln (fun a1 a2 x3 M => kk (a1, a2, x3, M)) (some z) (some (z + 27)) (nI (6 * i)) (me z D' t' u') = some () := by
    intro D' t' u' hlt hI'
    have e : nI (6 * i) + 6 = nI (6 * (i + 1)) := by
      rw [show (6 : Int32) = nI 6 from rfl, nI_add, Nat.mul_add]
    unfold fn_Law_law_628
    rw [e]
    refine hk _ ⟨i + 1, D', t', u', rfl, hI', by omega⟩ ?_ rfl
    show (ln + 6 - (nI (6 * (i + 1))).toNatClampNeg) / 6 < (ln + 6 - (nI (6 * i)).toNatClampNeg) / 6
    rw [nI_clamp (by omega), nI_clamp (by omega)]
    omega
  unfold fn_Law_law_18_bd
  by_cases hc : (nI ln - (6 : Int32)) < nI (6 * i)
  · rw [if_pos hc]
  have hlt : 6 * i + 6 ≤ ln := by
    have h1 : (nI ln - nI 6).toInt = (ln : Int) - 6 := pk_sub_toInt (by omega) (by omega)
    have h2 : (nI (6 * i)).toInt = ((6 * i : Nat) : Int) := nI_toInt (by omega)
    have h3 : ¬ (nI ln - nI 6).toInt < (nI (6 * i)).toInt := fun h => hc (Int32.lt_iff_toInt_lt.mpr h)
    rw [h1, h2] at h3
    omega
  have hl31 : ln < 2 ^ 31 := by omega
  have s0 : gk_sc xs ln (nI (6 * i)) = some (xs (6 * i)) := sc_at (by omega) hl31
  have s1 : gk_sc xs ln (nI (6 * i) + (1 : Int32)) = some (xs (6 * i + 1)) := by
    rw [show (1 : Int32) = nI 1 from rfl, nI_add]; exact sc_at (by omega) hl31
  have s2 : gk_sc xs ln (nI (6 * i) + (2 : Int32)) = some (xs (6 * i + 2)) := by
    rw [show (2 : Int32) = nI 2 from rfl, nI_add]; exact sc_at (by omega) hl31
  have s3 : gk_sc xs ln (nI (6 * i) + (3 : Int32)) = some (xs (6 * i + 3)) := by
    rw [show (3 : Int32) = nI 3 from rfl, nI_add]; exact sc_at (by omega) hl31
  have s4 : gk_sc xs ln (nI (6 * i) + (4 : Int32)) = some (xs (6 * i + 4)) := by
    rw [show (4 : Int32) = nI 4 from rfl, nI_add]; exact sc_at (by omega) hl31
  have s5 : gk_sc xs ln (nI (6 * i) + (5 : Int32)) = some (xs (6 * i + 5)) := by
    rw [show (5 : Int32) = nI 5 from rfl, nI_add]; exact sc_at (by omega) hl31
  have hnx := fun D' t' u' => hnx D' t' u' hlt
  rw [if_neg hc, s0, Option.bind_some]
  by_cases c0 : (xs (6 * i) &&& (15 : Int32)) = 0
  · rw [if_pos c0]
    simp only [s1, Option.bind_some]
    exact op_use (o0 (xs (6 * i + 1))) hI _ hnx
  rw [if_neg c0]
  by_cases c1 : (xs (6 * i) &&& (15 : Int32)) = 1
  · rw [if_pos c1, s1, Option.bind_some]
    by_cases e : xs (6 * i + 1) = 0
    · rw [if_pos e]
      unfold fn_Law_law_151
      simp only [s1, Option.bind_some, e, if_true, fn_Law_law_168]
      exact op_use (o1 0 (Or.inl rfl)) hI _ hnx
    · rw [if_neg e]
      unfold fn_Law_law_151
      simp only [s1, Option.bind_some, if_neg e, fn_Law_law_168]
      exact op_use (o1 1 (Or.inr rfl)) hI _ hnx
  rw [if_neg c1]
  by_cases c2 : (xs (6 * i) &&& (15 : Int32)) = 2
  · rw [if_pos c2]
    simp only [s1, s2, s3, s4, s5, Option.bind_some]
    exact op_use (o2 (xs (6 * i + 1)) (xs (6 * i + 2)) (xs (6 * i + 3)) (xs (6 * i + 4)) (xs (6 * i + 5))) hI _ hnx
  rw [if_neg c2]
  by_cases c3 : (xs (6 * i) &&& (15 : Int32)) = 3
  · rw [if_pos c3]
    simp only [s1, s2, s3, s4, Option.bind_some]
    exact op_use (o3 (xs (6 * i + 1)) (xs (6 * i + 2)) (xs (6 * i + 3)) (xs (6 * i + 4))) hI _ hnx
  rw [if_neg c3]
  by_cases c4 : (xs (6 * i) &&& (15 : Int32)) = 4
  · rw [if_pos c4]
    simp only [s1, s2, Option.bind_some]
    exact op_use (o4 (xs (6 * i + 1)) (xs (6 * i + 2))) hI _ hnx
  rw [if_neg c4]
  by_cases c5 : (xs (6 * i) &&& (15 : Int32)) = 5
  · rw [if_pos c5]
    simp only [s1, s2, s3, s4, s5, Option.bind_some]
    exact op_use (o5 (xs (6 * i + 1)) (xs (6 * i + 2)) (xs (6 * i + 3)) (xs (6 * i + 4)) (xs (6 * i + 5))) hI _ hnx
  rw [if_neg c5]
  by_cases c6 : (xs (6 * i) &&& (15 : Int32)) = 6
  · rw [if_pos c6]
    simp only [s1, s2, Option.bind_some]
    exact op_use (o6 (xs (6 * i + 1)) (xs (6 * i + 2))) hI _ hnx
  rw [if_neg c6]
  by_cases c7 : (xs (6 * i) &&& (15 : Int32)) = 7
  · rw [if_pos c7]
    simp only [s1, s2, Option.bind_some]
    exact op_use (o7 (xs (6 * i + 1)) (xs (6 * i + 2))) hI _ hnx
  rw [if_neg c7]
  by_cases c8 : (xs (6 * i) &&& (15 : Int32)) = 8
  · rw [if_pos c8]
    simp only [s1, s2, s3, Option.bind_some]
    exact op_use (o8 (xs (6 * i + 1)) (xs (6 * i + 2)) (xs (6 * i + 3))) hI _ hnx
  rw [if_neg c8]
  by_cases c9 : (xs (6 * i) &&& (15 : Int32)) = 9
  · rw [if_pos c9]
    exact op_use o9 hI _ hnx
  rw [if_neg c9]
  by_cases c10 : (xs (6 * i) &&& (15 : Int32)) = 10
  · rw [if_pos c10]
    exact op_use o10 hI _ hnx
  rw [if_neg c10]
  by_cases c11 : (xs (6 * i) &&& (15 : Int32)) = 11
  · rw [if_pos c11]
    simp only [s1, Option.bind_some]
    exact op_use (o11 (xs (6 * i + 1))) hI _ hnx
  rw [if_neg c11]
  by_cases c12 : (xs (6 * i) &&& (15 : Int32)) = 12
  · rw [if_pos c12]
    simp only [s1, s2, Option.bind_some]
    exact op_use (o12 (xs (6 * i + 1)) (xs (6 * i + 2))) hI _ hnx
  rw [if_neg c12]
  by_cases c13 : (xs (6 * i) &&& (15 : Int32)) = 13
  · rw [if_pos c13]
    exact op_use o13 hI _ hnx
  rw [if_neg c13]
  by_cases c14 : (xs (6 * i) &&& (15 : Int32)) = 14
  · rw [if_pos c14]
    exact op_use o14 hI _ hnx
  rw [if_neg c14]
  by_cases c15 : (xs (6 * i) &&& (15 : Int32)) = 15
  · rw [if_pos c15]
    simp only [s1, Option.bind_some]
    exact op_use (o15 (xs (6 * i + 1))) hI _ hnx
  rw [if_neg c15]
  exact hnx D t u hI
