theorem op_request (z : Nat) (x1 x2 x3 : Int32) : op_ok z (Inv z) (fn_SD_request (some z) x1 x2 x3) (fn_Mo_request (some (z + 27)) x1 x2 x3) := by
  intro D t u hI
  obtain ⟨hD, ⟨nb, hnb, b0, b1, bk⟩, hres, hmet, hloc, hfil, hmap, hacc, hout⟩ := id hI
  have hA : ∀ i, i < nb → u.2.2 0 i = t.2.1 2 i := fun i hi => (bk i hi).1.symm
  have hkc : ∀ i, i < nb → kc (t.2.1 2 i) = true := fun i hi => (bk i hi).2
  have hm1 := fun t' : sd_S => ms_rhead (z := z) (D := D) (t := t') (u := u) (A := t.2.1 2) b1 hnb hA x1 x2 x3
  rcases bool_or (pth nb (t.2.1 2) && (wi x1 0 5 && cnc x2)) with hg | hg
  · refine ⟨-1, D, (upd t.1 0 0, t.2), (upd u.1 1 0, u.2), ?_, ?_, ?_⟩
    · rw [cs_rhead b0 hnb, hg, b2_f]
      unfold fn_SD_request_33
      rw [if_pos rfl]
      simp only [fn_SD_request_81, sd_gr_0_0, Option.bind_some, sd_ob_1, cs_clear]
    · rw [hm1, if_pos hg]
    · exact ⟨hD, ⟨0, by omega, pk_us (f := t.1) (k := 0), pk_us (f := u.1) (k := 1), fun i hi => absurd hi (by omega)⟩, hres, hmet, hloc, hfil, hmap, hacc, hout⟩
  · have hg' := hg
    rw [Bool.and_eq_true, Bool.and_eq_true] at hg'
    obtain ⟨-, hw1, hcn⟩ := hg'
    have hv1 : ¬ 100 ≤ x1 := by
      rw [wi_t] at hw1
      intro q
      have a := Int32.le_iff_toInt_le.mp hw1.2
      have b := Int32.le_iff_toInt_le.mp q
      rw [show (5 : Int32).toInt = 5 by decide] at a
      rw [show (100 : Int32).toInt = 100 by decide] at b
      omega
    obtain ⟨rn, hrn, r1, r2, r3⟩ := hres
    obtain ⟨rn', mn, hrn', m1, hmn, m2, m3, m4, -, -⟩ := hmet
    obtain ⟨rn'', ln, hrn'', l1, hln, l2, l3, l4⟩ := hloc
    have e' : rn' = rn := (nI_eq (by omega) (by omega)).mp (m1.symm.trans r2)
    have e'' : rn'' = rn := (nI_eq (by omega) (by omega)).mp (l1.symm.trans r2)
    subst e'
    subst e''
    obtain ⟨nf, hnf, f1, f2, f3, ⟨ρ, p1, p2, p3⟩, ⟨σ, s1, s2, s3'⟩⟩ := hfil
    have hST : ST z D rn'' mn ln (t.2.2 4) (t.2.2 5) (t.2.2 6) u.2.2 := ⟨hrn, hmn, hln, r3, m4, l4⟩
    have hFL : FL z D nf (t.2.2 8) u.2.2 := ⟨hnf, fun f hf => by
      obtain ⟨o, a, b, c, -⟩ := f3 f hf
      exact ⟨o, a, b, c⟩⟩
    have hO : ORD nf ρ (qq u.2.2 0) := ⟨fun i hi => (p1 i hi).2, fun i j hij hj => by
      have h := p2 i j hij hj
      unfold qq
      rw [if_pos (by decide), if_pos (by decide)]
      rcases h with h | h
      · exact Or.inl (Int32.lt_iff_toInt_lt.mp h)
      · exact Or.inr ⟨congrArg Int32.toInt h.1, h.2⟩, p3⟩
    have hS : ORD nf σ (qq u.2.2 2) := ⟨fun i hi => (s1 i hi).2, fun i j hij hj => by
      have h := s2 i j hij hj
      unfold qq
      rw [if_neg (by decide), if_neg (by decide)]
      rcases h with h | h
      · have := Int32.lt_iff_toInt_lt.mp h
        exact Or.inl (by omega)
      · exact Or.inr ⟨by rw [h.1], h.2⟩, s3'⟩
    obtain ⟨na, ty, qs, hAL, hAM, hadd⟩ := acc_of (z := z) (D := D) hacc
    obtain ⟨t1, bg, c0, ⟨c11, c12, c13, c14, c15, c16, c17, c18, c19⟩, c3, c4, c5⟩ := cs_begin (z := z) (D := D) (u := u) b0 hnb hkc
    obtain ⟨t2, ad, d1, d2, d3, hAC⟩ := hadd t1 (c0 5 (by omega)) (c3 12 (by decide)) (c3 13 (by decide))
    have hP : ∀ i, i < nb → t2.2.1 21 i = t.2.1 2 i := fun i hi => by rw [d2 21 (by decide) (by decide)]; exact c4 i hi
    have hPk : ∀ i, i < nb → kc (t2.2.1 21 i) = true := fun i hi => by rw [hP i hi]; exact hkc i hi
    have hC : CC rn'' mn ln nb (t2.2.1 21) (t.2.2 4) (t.2.2 5) (t.2.2 6) t2 := ⟨((d1 1 (by decide)).trans (c0 1 (by omega))).trans r1, ((d1 2 (by decide)).trans (c0 2 (by omega))).trans m2, ((d1 3 (by decide)).trans (c0 3 (by omega))).trans l2, (d1 19 (by decide)).trans c19, rfl, by rw [d3, c5], by rw [d3, c5], by rw [d3, c5]⟩
    have hFC : FC nf (t.2.2 8) ρ σ t2 := ⟨((d1 4 (by decide)).trans (c0 4 (by omega))).trans f1, by rw [d3, c5], fun i hi => by rw [d2 9 (by decide) (by decide), c3 9 (by decide)]; exact p1 i hi, fun i hi => by rw [d2 10 (by decide) (by decide), c3 10 (by decide)]; exact s1 i hi⟩
    have hmp : ∀ k, k < 16 → t2.2.1 26 k = u.2.2 24 k := fun k hk => by rw [d2 26 (by decide) (by decide), c3 26 (by decide)]; exact (hmap k hk).1
    obtain ⟨t3, z3, g3, OT3, OB3⟩ := cs_steps (u := u) (mp := u.2.2 24) hST hFL hnb hPk hAL hAC hC hFC hO hS hmp ((d1 11 (by decide)).trans c11) ((d1 12 (by decide)).trans c12) ⟨(d1 13 (by decide)).trans c13, fun i hi => absurd hi (by simp)⟩ ((d1 14 (by decide)).trans c14) ((d1 15 (by decide)).trans c15) ((d1 16 (by decide)).trans c16) ((d1 17 (by decide)).trans c17) ((d1 18 (by decide)).trans c18) x3 x1 x2
    have hL8 := fun m2 => k0_L (rn := rn'') (mn := mn) (ln := ln) (n := nb) (na := na) (P := t2.2.1 21) (B := u.2.2) (ty := ty) (qs := qs) (mp := u.2.2 24) hnf hO hS x3 x1 x2 m2
    generalize hr : k0 rn'' mn ln nb nf na (t2.2.1 21) u.2.2 ρ ty qs (u.2.2 24) x3 x1 x2 = r at g3 OT3 OB3 hL8
    obtain ⟨o1, o2, o14, o15, o16, o17, o18⟩ := OT3
    obtain ⟨t4, q4, g4, n4⟩ := cs_re (u := u) (mo := r.2.1) hST hFL OB3.2.2.2 nf 0 gk_fuel t3 r.2.2.2.2.2.2.2 (by omega) (by unfold gk_fuel; omega) (hC.tz z3) (hFC.tz z3) o14 o2 (hL8 r.2.1)
    have hre : fn_SD_runFiltersAtTheEnd (some z) (me z D t3 u) = some (me z D t4 u) := g4
    obtain ⟨u1, v1, v2, ⟨w29, w30, w31, w33, w35, w36, w37, w38, w39, w40, w42, w45⟩, v3, v4⟩ := ms_127 (z := z) (D := D) (t := (upd (upd t4.1 5 0) 0 0, t4.2)) (u := (upd u.1 1 0, u.2)) (A := t.2.1 2) hnb hA hkc x1 x2 x3
    have v2' : ∀ k, k < 29 → k ≠ 1 → u1.1 k = u.1 k := fun k hk h1 => (v2 k hk).trans (pk_un h1)
    have v3' : ∀ k, k ≠ 28 → u1.2.2 k = u.2.2 k := v3
    have hMB : MB rn'' mn ln nb nf na (t2.2.1 21) u.2.2 ty qs (u.2.2 24) x3 u1 := by
      refine ⟨⟨(v2' 4 (by omega) (by decide)).trans r2, (v2' 5 (by omega) (by decide)).trans m3, (v2' 14 (by omega) (by decide)).trans l3, w29, fun i hi => (v4 i hi).trans (hP i hi).symm, fun k hk => v3' k (by omega)⟩, ⟨(v2' 17 (by omega) (by decide)).trans f2, v3' 12 (by decide), fun k _ hk => v3' k (by omega)⟩, ?_, w31, fun k hk => ⟨by rw [v3' 24 (by decide)], (hmap k hk).2⟩⟩
      unfold AM
      rw [v2' 25 (by omega) (by decide), v3' 26 (by decide), v3' 27 (by decide)]
      exact hAM
    obtain ⟨u2, y2, g5, OU2⟩ := ms_steps (z := z) (D := D) (t := (upd (upd t4.1 5 0) 0 0, t4.2)) (x1 := x1) (x2 := x2) hST hMB hnf hnb hPk hO hS hAL ⟨w45, fun i hi => absurd hi (by simp)⟩ w35 w36 w37 w38 w39 w40 w42 (cnc_ty hcn) ⟨fun _ => ⟨w33, w30⟩, fun q => absurd q hv1⟩ (by rw [hr]; exact OB3)
    rw [hr] at OU2
    obtain ⟨a1, a2, a35, aC, a38, a39, a32⟩ := OU2
    obtain ⟨u3, y3, s32, g6, n6⟩ := ms_filterE (z := z) (D := D) (t := (upd (upd t4.1 5 0) 0 0, t4.2)) (mo := r.2.1) (hMB.uy y2).2.1 hnf hmn OB3.2.2.2 hS a2 (hL8 r.2.1)
    have hlen := hL8 r.2.1
    have T : ∀ k, k ≠ 0 → k ≠ 5 → k ≠ 13 → upd (upd t4.1 5 0) 0 0 k = t3.1 k := fun k a b c => ((pk_un a).trans (pk_un b)).trans (q4.1 k c)
    have U : ∀ k, k ≠ 25 → k ≠ 30 → k ≠ 32 → k ≠ 33 → k ≠ 45 → upd u3.1 25 0 k = u2.1 k := fun k a b c d e => (pk_un a).trans (y3.1 k b c d e)
    refine ⟨r.1, D, (upd (upd t4.1 5 0) 0 0, t4.2), (upd u3.1 25 0, u3.2), ?_, ?_, ?_⟩
    · rw [cs_rhead b0 hnb, hg, b2_t]
      unfold fn_SD_request_33
      rw [if_neg e10]
      simp only [sd_gr_0_5, sd_gr_0_0, Option.bind_some, sd_ob_19, bg, sd_gr_0_3, sd_ob_11, ad, sd_ob_0, g3, hre, fn_Accepted_clear, sd_pf_5, fn_SD_request_81, sd_ob_1, cs_clear]
    · have e32 : upd u3.1 25 0 32 = r.1 := ((pk_un (f := u3.1) (k := 25) (j := 32) (x := 0) (by decide)).trans s32).trans a32
      rw [hm1, if_neg (by rw [hg]; decide), v1, g5]
      unfold fn_Mo_request_265
      simp only [mo_gi_35, a35, Option.bind_some, mo_ob, g6, mo_pf_25, mo_gi_32, e32]
    · refine inv_req hI (fun k h1 h2 => ?_) (fun k hk => ?_) ?_ ?_ ?_ ?_ (fun k h1 h2 => ?_) (fun k hk => ?_) ?_ ?_ ?_
      · exact (((T k (by omega) (by omega) (by omega)).trans (z3.1 k (by omega))).trans (d1 k (by omega))).trans (c0 k (by omega))
      · exact (((q4.2.1 k (by omega)).trans (z3.2.1 k (by omega))).trans (d2 k (by omega) (by omega))).trans (c3 k (by omega))
      · exact (((q4.2.1 26 (by decide)).trans (z3.2.1 26 (by omega))).trans (d2 26 (by decide) (by decide))).trans (c3 26 (by decide))
      · exact ((q4.2.2.trans z3.2.2).trans d3).trans c5
      · exact pk_us (f := upd t4.1 5 0) (k := 0)
      · exact (pk_un (f := upd t4.1 5 0) (k := 0) (j := 5) (x := 0) (by decide)).trans (pk_us (f := t4.1) (k := 5))
      · exact ((U k (by omega) (by omega) (by omega) (by omega) (by omega)).trans (y2.1 k (by omega))).trans (v2' k (by omega) (by omega))
      · exact ((y3.2.2 k (by omega) (by omega)).trans (y2.2 k (by omega))).trans (v3' k (by omega))
      · exact ((U 1 (by decide) (by decide) (by decide) (by decide) (by decide)).trans (y2.1 1 (by omega))).trans ((v2 1 (by omega)).trans (pk_us (f := u.1) (k := 1)))
      · exact pk_us (f := u3.1) (k := 25)
      · refine out_req (n := nb) (P := t2.2.1 21) (r := r) (mn := mn) (L := r.2.2.2.2.2.2.2 ++ gE σ (EF u.2.2 r.2.1 2) nf 0) hnb ?_ ?_ (fun i hi => ?_) (fun i hi => ?_) hPk OB3 ?_ ?_ ?_ ?_ ?_ ?_ ?_ ?_ ?_ ?_ ?_ ?_ ?_
        · exact ((T 19 (by decide) (by decide) (by decide)).trans (z3.1 19 (by omega))).trans ((d1 19 (by decide)).trans c19)
        · exact ((U 29 (by decide) (by decide) (by decide) (by decide) (by decide)).trans (y2.1 29 (by omega))).trans w29
        · exact congrFun ((q4.2.1 21 (by decide)).trans (z3.2.1 21 (by omega))) i
        · exact (congrFun ((y3.2.2 28 (by decide) (by decide)).trans (y2.2 28 (by omega))) i).trans ((v4 i hi).trans (hP i hi).symm)
        · exact o1.of (T 11 (by decide) (by decide) (by decide)) (T 12 (by decide) (by decide) (by decide)) (q4.2.1 22 (by decide)) (q4.2.1 23 (by decide)) (q4.2.1 24 (by decide))
        · exact a1.of (U 40 (by decide) (by decide) (by decide) (by decide) (by decide)) (U 42 (by decide) (by decide) (by decide) (by decide) (by decide)) (y3.2.2 41 (by decide) (by decide)) (y3.2.2 43 (by decide) (by decide)) (y3.2.2 44 (by decide) (by decide))
        · rw [List.length_append]; exact hlen
        · exact n4.of ((pk_un (f := upd t4.1 5 0) (k := 0) (j := 13) (x := 0) (by decide)).trans (pk_un (f := t4.1) (k := 5) (j := 13) (x := 0) (by decide))) rfl
        · exact n6.of (pk_un (f := u3.1) (k := 25) (j := 45) (x := 0) (by decide)) rfl
        · exact (T 15 (by decide) (by decide) (by decide)).trans o15
        · exact (T 16 (by decide) (by decide) (by decide)).trans o16
        · exact (T 17 (by decide) (by decide) (by decide)).trans o17
        · exact (T 18 (by decide) (by decide) (by decide)).trans o18
        · exact (U 35 (by decide) (by decide) (by decide) (by decide) (by decide)).trans a35
        · have h36 := U 36 (by decide) (by decide) (by decide) (by decide) (by decide)
          have h37 := U 37 (by decide) (by decide) (by decide) (by decide) (by decide)
          cases hi : r.2.2.1 with
          | none => rw [hi] at aC; exact ⟨h36.trans aC.1, h37.trans aC.2⟩
          | some a => rw [hi] at aC; exact ⟨h36.trans aC.1, h37.trans aC.2⟩
        · exact (U 38 (by decide) (by decide) (by decide) (by decide) (by decide)).trans a38
        · exact (U 39 (by decide) (by decide) (by decide) (by decide) (by decide)).trans a39
