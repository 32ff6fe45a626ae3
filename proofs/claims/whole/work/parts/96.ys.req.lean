theorem I_met.cg {z : Nat} {D : gk_M} {s2 : Int32} {P5 : Nat → Option Nat} {v4 v5 : Int32} {B B' : Nat → Nat → Int32} (h : ∀ k, k < 23 → B' k = B k) (hI : I_met z D s2 P5 v4 v5 B) : I_met z D s2 P5 v4 v5 B' := by
  have e2 := h 2 (by decide)
  have e3 := h 3 (by decide)
  have e6 := h 6 (by decide)
  have e7 := h 7 (by decide)
  have e8 := h 8 (by decide)
  have e9 := h 9 (by decide)
  have e10 := h 10 (by decide)
  have e11 := h 11 (by decide)
  have e12 := h 12 (by decide)
  have e13 := h 13 (by decide)
  unfold I_met mrg at hI ⊢
  simp only [e2, e3, e6, e7, e8, e9, e10, e11, e12, e13]
  exact hI
theorem I_loc.cg {z : Nat} {D : gk_M} {s3 : Int32} {P6 : Nat → Option Nat} {v4 v14 : Int32} {B B' : Nat → Nat → Int32} (h : ∀ k, k < 23 → B' k = B k) (hI : I_loc z D s3 P6 v4 v14 B) : I_loc z D s3 P6 v4 v14 B' := by
  have e2 := h 2 (by decide)
  have e3 := h 3 (by decide)
  have e15 := h 15 (by decide)
  have e16 := h 16 (by decide)
  unfold I_loc at hI ⊢
  simp only [e2, e3, e15, e16]
  exact hI
theorem I_fil.cg {z : Nat} {D : gk_M} {s4 : Int32} {P8 : Nat → Option Nat} {A9 A10 : Nat → Int32} {v17 : Int32} {B B' : Nat → Nat → Int32} (h : ∀ k, k < 23 → B' k = B k) (hI : I_fil z D s4 P8 A9 A10 v17 B) : I_fil z D s4 P8 A9 A10 v17 B' := by
  have e18 := h 18 (by decide)
  have e19 := h 19 (by decide)
  have e20 := h 20 (by decide)
  have e21 := h 21 (by decide)
  have e22 := h 22 (by decide)
  unfold I_fil at hI ⊢
  simp only [e18, e19, e20, e21, e22]
  exact hI
theorem inv_req {z : Nat} {D : gk_M} {t t' : sd_S} {u u' : mo_S} (hI : Inv z D t u) (e1 : ∀ k, 1 ≤ k → k < 5 → t'.1 k = t.1 k) (e2 : ∀ k, k < 12 → t'.2.1 k = t.2.1 k) (e26 : t'.2.1 26 = t.2.1 26) (e3 : t'.2.2 = t.2.2) (e0 : t'.1 0 = 0) (e5 : t'.1 5 = 0) (f1 : ∀ k, 2 ≤ k → k < 25 → u'.1 k = u.1 k) (f2 : ∀ k, (k < 23 ∨ k = 24) → u'.2.2 k = u.2.2 k) (f0 : u'.1 1 = 0) (f25 : u'.1 25 = 0) (hO : I_out t' u') : Inv z D t' u' := by
  obtain ⟨hD, -, hr, hm, hl, hf, hp, -, -⟩ := hI
  have hB : ∀ k, k < 23 → u'.2.2 k = u.2.2 k := fun k hk => f2 k (by omega)
  refine ⟨hD, ⟨0, by omega, e0, f0, fun i hi => absurd hi (by omega)⟩, ?_, ?_, ?_, ?_, ?_, ⟨0, by omega, e5, f25, fun i hi => absurd hi (by omega)⟩, hO⟩
  · rw [e1 1 (by omega) (by omega), e3, f1 4 (by omega) (by omega), hB 3 (by omega), hB 2 (by omega)]
    exact hr
  · rw [e1 2 (by omega) (by omega), e3, f1 4 (by omega) (by omega), f1 5 (by omega) (by omega)]
    exact hm.cg hB
  · rw [e1 3 (by omega) (by omega), e3, f1 4 (by omega) (by omega), f1 14 (by omega) (by omega)]
    exact hl.cg hB
  · rw [e1 4 (by omega) (by omega), e3, e2 9 (by omega), e2 10 (by omega), f1 17 (by omega) (by omega)]
    exact hf.cg hB
  · rw [e26, f2 24 (by omega)]
    exact hp
/-- what is told, of both the same -/
theorem out_req {n : Nat} {P : Nat → Int32} {t : sd_S} {u : mo_S} {r : RS} {L : List Nat} (hn : n ≤ 24) (h19 : t.1 19 = nI n) (h29 : u.1 29 = nI n) (h21 : ∀ i, i < n → t.2.1 21 i = P i) (h28 : ∀ i, i < n → u.2.2 28 i = P i) (hk : ∀ i, i < n → kc (P i) = true) {mn : Nat} (hB : OB n mn r) (hT : RP t r.2.2.2.2.2.1 r.2.2.2.2.2.2.1) (hU : RM u r.2.2.2.2.2.1 r.2.2.2.2.2.2.1) (hL : L.length ≤ 8) (hRN : RN t L) (hRQ : RQ u L) (a15 : t.1 15 = oA r.2.2.1 r.2.1) (a16 : t.1 16 = oB r.2.2.1) (a17 : t.1 17 = r.2.2.2.1) (a18 : t.1 18 = r.2.2.2.2.1) (b35 : u.1 35 = oI r.2.1) (bC : oC u r.2.2.1) (b38 : u.1 38 = r.2.2.2.1) (b39 : u.1 39 = r.2.2.2.2.1) : I_out t u := by
  obtain ⟨o1, o2, o3, -⟩ := hB
  refine ⟨n, ⟨hn, h19, h29, fun i hi => ?_⟩, ⟨r.2.2.2.2.2.2.1.length, o2, hT.2.2.1, hU.2.2.1, fun i hi => ?_⟩, ⟨r.2.2.2.2.2.1.length, o1, hT.1, hU.1, fun k hk => ?_⟩, ⟨L.length, hL, hRN.1, hRQ.1, fun i hi => ?_⟩, ?_⟩
  · rw [h21 i hi, h28 i hi]
    exact ⟨rfl, hk i hi⟩
  · rw [hT.2.2.2 i hi, hU.2.2.2 i hi]
  · have hg := o3 _ (getD_mem (d := (0, 0)) hk)
    have g1 := hT.2.1 k hk
    have g2 := hU.2.1 k hk
    generalize r.2.2.2.2.2.1.getD k (0, 0) = g at hg g1 g2
    refine ⟨g.1, g.2 - g.1, by omega, g1.1, g2.1, ?_, g2.2⟩
    rw [g1.2]
    congr 1
    omega
  · rw [hRN.2 i hi, hRQ.2 i hi]
  · cases hr : r.2.2.1 with
    | none =>
      rw [hr] at a15 a16 bC
      refine ⟨Or.inl bC.1, ?_, ?_, by rw [a17, b38], by rw [a18, b39]⟩
      · rw [if_pos bC.1]; exact a15
      · rw [if_pos bC.1]; exact a16
    | some a =>
      rw [hr] at a15 a16 bC
      have h36 : ¬ u.1 36 = 0 := by rw [bC.1]; exact e10
      refine ⟨Or.inr bC.1, ?_, ?_, by rw [a17, b38], by rw [a18, b39]⟩
      · rw [if_neg h36, b35]; exact a15
      · rw [if_neg h36, bC.2]; exact a16
theorem acc_of {z : Nat} {D : gk_M} {t : sd_S} {u : mo_S} (h : I_acc (t.1 5) (t.2.1 12) (t.2.1 13) (u.1 25) (u.2.2 26) (u.2.2 27)) : ∃ (na : Nat) (ty : Nat → Int32) (qs : Nat → Nat), AL na ty qs ∧ AM na ty qs u ∧ ∀ t1 : sd_S, t1.1 5 = t.1 5 → t1.2.1 12 = t.2.1 12 → t1.2.1 13 = t.2.1 13 → ∃ t2 : sd_S, fn_Accepted_addDefault (some (z + 11)) (me z D t1 u) = some (me z D t2 u) ∧ (∀ k, k ≠ 5 → t2.1 k = t1.1 k) ∧ (∀ k, k ≠ 12 → k ≠ 13 → t2.2.1 k = t1.2.1 k) ∧ t2.2.2 = t1.2.2 ∧ AC na ty qs t2 := by
  obtain ⟨n, hn, g1, g2, g3⟩ := h
  by_cases c : n = 0
  · subst c
    refine ⟨1, fun _ => 0, fun _ => 1000, ⟨by omega, fun k _ => ⟨by show isTy 0 = true; decide, by show 1000 ≤ 1000; omega⟩⟩, Or.inr ⟨g2, rfl, rfl, rfl⟩, fun t1 a1 _ _ => ?_⟩
    refine ⟨(upd t1.1 5 1, up2 (up2 t1.2.1 12 0 0) 13 0 1000, t1.2.2), ?_, fun k hk => pk_un hk, fun k h12 h13 => (up2_ne _ _ _ h13).trans (up2_ne _ _ _ h12), rfl, ⟨pk_us (f := t1.1) (k := 5), fun k hk => ?_⟩⟩
    · have e5 : t1.1 5 = nI 0 := a1.trans g1
      unfold fn_Accepted_addDefault
      rw [sd_gi_5, e5, Option.bind_some, if_pos nI_0]
      simp only [sd_ob_11, Option.bind_some, fn_Accepted_add, sd_gr_11_0, sd_gr_11_1, sd_gi_5, e5, sd_is_12 (show 0 < 4 by decide), sd_is_13 (show 0 < 4 by decide), nar_int, sd_pf_5, nI_1]
      rfl
    · have : k = 0 := by omega
      subst this
      refine ⟨?_, ?_⟩
      · show up2 (up2 t1.2.1 12 0 0) 13 0 1000 12 0 = 0
        rw [up2_ne _ _ _ (by decide), up2_self, pk_us]
      · show up2 (up2 t1.2.1 12 0 0) 13 0 1000 13 0 = nI 1000
        rw [up2_self, pk_us]; rfl
  · have hq : ∀ k, k < n → u.2.2 27 k = nI (u.2.2 27 k).toNatClampNeg ∧ (u.2.2 27 k).toNatClampNeg ≤ 1000 := fun k hk => wi_n (M := 1000) (by decide) (by omega) (g3 k hk).2.2.2
    refine ⟨n, u.2.2 26, fun k => (u.2.2 27 k).toNatClampNeg, ⟨hn, fun k hk => ⟨(g3 k hk).2.2.1, (hq k hk).2⟩⟩, Or.inl ⟨g2, by omega, fun k hk => ⟨rfl, (hq k hk).1⟩⟩, fun t1 a1 a2 a3 => ?_⟩
    refine ⟨t1, ?_, fun _ _ => rfl, fun _ _ _ => rfl, rfl, ⟨a1.trans g1, fun k hk => ⟨?_, ?_⟩⟩⟩
    · unfold fn_Accepted_addDefault
      rw [sd_gi_5, a1, g1, Option.bind_some, if_neg (nI_ne0 (by omega) (by omega))]
    · rw [a2]; exact (g3 k hk).1
    · rw [a3]; exact (g3 k hk).2.1.trans (hq k hk).1
/-- the reference's path, and a new start -/
theorem ms_127 {z : Nat} {D : gk_M} {t : sd_S} {u : mo_S} {nb : Nat} {A : Nat → Int32} (hn : nb ≤ 24) (hA : ∀ i, i < nb → u.2.2 0 i = A i) (hk : ∀ i, i < nb → kc (A i) = true) (x1 x2 x3 : Int32) : ∃ u1 : mo_S, fn_Mo_request_127 (some (z + 27)) x1 x2 x3 (nI nb) 0 (me z D t u) = ((fn_Mo_filterAll (some (z + 27)) 0 (-1) (me z D t u1)).bind fun w223 => (gk_gi w223 12 33 (some (z + 27))).bind fun v227 => if v227 = 0 then ((gk_ob w223 12 (some (z + 27))).bind fun _ => (fn_Mo_matching (some (z + 27)) x2 w223).bind fun w235 => fn_Mo_request_238 (some (z + 27)) w235) else (fn_Mo_request_238 (some (z + 27)) w223)) ∧ (∀ k, k < 29 → u1.1 k = u.1 k) ∧ (u1.1 29 = nI nb ∧ u1.1 30 = x1 ∧ u1.1 31 = x3 ∧ u1.1 33 = 0 ∧ u1.1 35 = -1 ∧ u1.1 36 = 0 ∧ u1.1 37 = 0 ∧ u1.1 38 = 0 ∧ u1.1 39 = -1 ∧ u1.1 40 = 0 ∧ u1.1 42 = 0 ∧ u1.1 45 = 0) ∧ (∀ k, k ≠ 28 → u1.2.2 k = u.2.2 k) ∧ ∀ i, i < nb → u1.2.2 28 i = A i := by
  unfold fn_Mo_request_127
  obtain ⟨a', w, h1, h2⟩ := lp_to (body := fun (kk : Option Nat × Int32 × Int32 × Int32 × Int32 × Int32 × gk_M → Option (Int32 × gk_M)) a => fn_Mo_request_127_bd (fun a0 x1 x2 x3 x5 x6 M => kk (a0, x1, x2, x3, x5, x6, M)) a.1 a.2.1 a.2.2.1 a.2.2.2.1 a.2.2.2.2.1 a.2.2.2.2.2.1 a.2.2.2.2.2.2) (fun i st => ∃ X : Nat → Int32, st = (some (z + 27), x1, x2, x3, nI nb, nI i, me z D t (u.1, u.2.1, setA u.2.2 28 X)) ∧ ∀ j, j < i → X j = A j) nb (fun i st hi hst => by
    obtain ⟨X, rfl, hX⟩ := hst
    refine ⟨_, ⟨upd X i (A i), rfl, fun j hj => ?_⟩, fun kk => ?_⟩
    · by_cases e : j = i
      · subst e; rw [pk_us]
      · rw [pk_un e]; exact hX j (by omega)
    · have e0 : gk_il (me z D t (u.1, u.2.1, setA u.2.2 28 X)) 1 (some (z + 28)) (nI i) = some (A i) := by
        rw [mo_il_0 (by omega)]
        exact congrArg some ((congrFun (setA_ne (i := 28) (a := 0) u.2.2 X (by decide)) i).trans (hA i hi))
      have es : gk_is (me z D t (u.1, u.2.1, setA u.2.2 28 X)) 1 .char (some (z + 50)) (nI i) (A i) = some (me z D t (u.1, u.2.1, setA u.2.2 28 (upd X i (A i)))) := by
        rw [mo_is_28 (by omega), nar_c (hk i hi)]
        simp only [setA_up]
      simp only [fn_Mo_request_127_bd, if_neg (nI_ge hi (by omega)), mo_gr_28, mo_gr_0, Option.bind_some, e0, es, nI_1]) nb 0 gk_fuel (some (z + 27), x1, x2, x3, nI nb, 0, me z D t u) (by omega) (by unfold gk_fuel; omega) ⟨u.2.2 28, by rw [setA_id]; rfl, fun j hj => absurd hj (by omega)⟩
  obtain ⟨X, rfl, hX⟩ := h1
  rw [h2]
  refine ⟨(upd (upd (upd (upd (upd (upd (upd (upd (upd (upd (upd (upd (upd u.1 29 (nI nb)) 30 x1) 31 x3) 32 0) 33 0) 35 (-1)) 36 0) 37 0) 38 0) 39 (-1)) 40 0) 42 0) 45 0, u.2.1, setA u.2.2 28 X), ?_, fun k hk => ?_, ⟨rfl, rfl, rfl, rfl, rfl, rfl, rfl, rfl, rfl, rfl, rfl, rfl⟩, fun k hk => setA_ne _ _ hk, fun i hi => (congrFun (setA_self u.2.2 28 X) i).trans (hX i hi)⟩
  · simp only [fn_Mo_request_127_bd, if_pos (Int32.le_refl _), mo_pf_29, mo_pf_30, mo_pf_31, mo_pf_32, mo_pf_33, mo_pf_35, mo_pf_36, mo_pf_37, mo_pf_38, mo_pf_39, mo_pf_40, mo_pf_42, mo_pf_45, ev_z0, Option.bind_some, mo_ob]
  · simp only [upd, show ¬ k = 29 by omega, show ¬ k = 30 by omega, show ¬ k = 31 by omega, show ¬ k = 32 by omega, show ¬ k = 33 by omega, show ¬ k = 35 by omega, show ¬ k = 36 by omega, show ¬ k = 37 by omega, show ¬ k = 38 by omega, show ¬ k = 39 by omega, show ¬ k = 40 by omega, show ¬ k = 42 by omega, show ¬ k = 45 by omega, if_false]
