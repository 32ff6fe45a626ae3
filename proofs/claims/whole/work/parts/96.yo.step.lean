section
variable {z : Nat} {D : gk_M} {rn mn ln n nf na : Nat} {P : Nat → Int32} {P4 P5 P6 P8 : Nat → Option Nat} {B : Nat → Nat → Int32} {t : sd_S} {u : mo_S} {ρ σ : Nat → Nat} {ty : Nat → Int32} {qs : Nat → Nat} {mp : Nat → Int32} {mo : Option Nat}
theorem cs_59 (hmp : ∀ k, k < 16 → t.2.1 26 k = mp k) (x2 hd v0 : Int32) : fn_SD_runSteps_59 (some z) x2 hd v0 (me z D t u) = some (stt mp 8 4 8, me z D t u) := by
  have hst := cs_statusOf (z := z) (D := D) (u := u) (t := t) (mp := mp) hmp (j := 8) (by omega)
  rw [show nI 8 = 8 from rfl] at hst
  unfold fn_SD_runSteps_59 fn_SD_runSteps_60
  rw [if_pos rfl]
  unfold fn_SD_runSteps_86
  rw [if_neg (by decide)]
  simp only [sd_ob_0, Option.bind_some, hst]
theorem qw_b {b : Nat} (hg : tgd B b) (h0 : 0 < tm B b) (hn : n ≤ 24) (hc : qc n P (tl B b) 0 = true) : 0 < (qw n P (tl B b) 0).2 ∧ (qw n P (tl B b) 0).2 ≤ n ∧ (qw n P (tl B b) 0).1.length ≤ 4 ∧ ∀ g ∈ (qw n P (tl B b) 0).1, g.1 ≤ g.2 ∧ g.2 ≤ n := by
  obtain ⟨hg4, l', hl'⟩ := hg.2.2.2.2 h0
  have hq := qw_le n P (tl B b) 0 (by omega) hc
  refine ⟨?_, hq.2.1, by rw [qw_len]; exact hg4, hq.2.2⟩
  have hh := hc
  rw [hl'] at hh ⊢
  exact qw_47 (by omega) hh
theorem cs_steps (h : ST z D rn mn ln P4 P5 P6 B) (hF : FL z D nf P8 B) (hn : n ≤ 24) (hkc : ∀ i, i < n → kc (P i) = true) (hA : AL na ty qs) (hAC : AC na ty qs t) (hC : CC rn mn ln n P P4 P5 P6 t) (hFC : FC nf P8 ρ σ t) {q q' : Nat → Int} (hO : ORD nf ρ q) (hS : ORD nf σ q') (hmp : ∀ k, k < 16 → t.2.1 26 k = mp k) (h11 : t.1 11 = 0) (h12' : t.1 12 = 0) (hRN : RN t []) (h14 : t.1 14 = -1) (h15 : t.1 15 = -1) (h16 : t.1 16 = 0) (h17 : t.1 17 = 0) (h18 : t.1 18 = -1) (hd x1 x2 : Int32) : ∃ t', tz t t' ∧ fn_SD_runSteps (some z) x1 x2 hd (me z D t u) = some ((k0 rn mn ln n nf na P B ρ ty qs mp hd x1 x2).1, me z D t' u) ∧ OT t' (k0 rn mn ln n nf na P B ρ ty qs mp hd x1 x2) ∧ OB n mn (k0 rn mn ln n nf na P B ρ ty qs mp hd x1 x2) := by
  have h12 := h.2.1
  have h6 := h.1
  have hn8 := hF.1
  have hl3 := fun m => len3 (B := B) hn8 hO hS hd x1 (gF ρ (EF B none 0) hd B nf 0 x1).1 none (some m) none
  obtain ⟨t1, q1, r1, n1⟩ := cs_runF (u := u) (mo := none) h hF (K := 0) (by omega) hd x1 (fun m' hm' => by cases hm') hC hFC h14 hRN (by
    have := hl3 0
    simp only [List.length_nil]
    omega)
  rw [show nI 0 = 0 from rfl] at r1
  rw [List.nil_append] at n1
  have hC1 := hC.tn q1
  have hFC1 := hFC.tn q1
  have hmp1 : ∀ k, k < 16 → t1.2.1 26 k = mp k := fun k hk => by rw [q1.2.1 26 (by decide)]; exact hmp k hk
  unfold fn_SD_runSteps
  simp only [sd_ob_0, Option.bind_some, r1]
  by_cases c : 100 ≤ (gF ρ (EF B none 0) hd B nf 0 x1).1
  · have e : k0 rn mn ln n nf na P B ρ ty qs mp hd x1 x2 = ((gF ρ (EF B none 0) hd B nf 0 x1).1, none, none, 0, -1, [], [], (gF ρ (EF B none 0) hd B nf 0 x1).2) := by unfold k0; rw [if_pos c]
    rw [e]
    have c' : ¬ (gF ρ (EF B none 0) hd B nf 0 x1).1 < 100 := by rw [i_nlt]; exact c
    rw [if_neg c']
    refine ⟨t1, q1.tz, rfl, ⟨⟨(q1.1 12 (by decide)).trans h12', fun k hk => absurd hk (by simp), (q1.1 11 (by decide)).trans h11, fun k hk => absurd hk (by simp)⟩, n1, (q1.1 14 (by decide)).trans h14, (q1.1 15 (by decide)).trans h15, (q1.1 16 (by decide)).trans h16, (q1.1 17 (by decide)).trans h17, (q1.1 18 (by decide)).trans h18⟩, by simp, by simp, fun g hg => absurd hg (by simp), fun m hm => by cases hm⟩
  · have e : k0 rn mn ln n nf na P B ρ ty qs mp hd x1 x2 = k1 rn mn ln n nf na P B ρ ty qs mp hd x2 (gF ρ (EF B none 0) hd B nf 0 x1).1 (gF ρ (EF B none 0) hd B nf 0 x1).2 := by unfold k0; rw [if_neg c]
    rw [e]
    have c' : (gF ρ (EF B none 0) hd B nf 0 x1).1 < 100 := by rw [← i_nle]; exact c
    rw [if_pos c']
    obtain ⟨t2, q2, a11, a22, r2, rn2, rs2⟩ := cs_findClasses (u := u) h hC1 hn ((q1.1 12 (by decide)).trans h12')
    have hz2 : tz t t2 := q1.tz.trans q2.tz
    have hmp2 : ∀ k, k < 16 → t2.2.1 26 k = mp k := fun k hk => by rw [hz2.2.1 26 (by omega)]; exact hmp k hk
    have n2 : RN t2 (gF ρ (EF B none 0) hd B nf 0 x1).2 := n1.of (q2.1 13 (by omega)) (q2.2.1 25 (by omega))
    have b11 : t2.1 11 = 0 := (a11.trans (q1.1 11 (by decide))).trans h11
    have bk : ∀ k, 14 ≤ k → t2.1 k = t.1 k := fun k hk => (q2.1 k (by omega)).trans (q1.1 k (by omega))
    simp only [sd_gr_0_4, sd_gr_0_1, sd_gr_0_5, Option.bind_some, sd_ob_14, r2, b2_0]
    cases hb : bR mn ln n P B rn with
    | none =>
      rw [show k1 rn mn ln n nf na P B ρ ty qs mp hd x2 (gF ρ (EF B none 0) hd B nf 0 x1).1 (gF ρ (EF B none 0) hd B nf 0 x1).2 = (stt mp 8 4 8, none, none, 0, -1, [], [], (gF ρ (EF B none 0) hd B nf 0 x1).2) by unfold k1; rw [hb]]
      simp only [Option.isSome_none, if_true, cs_59 hmp2]
      exact ⟨t2, hz2, rfl, ⟨⟨rn2 hb, fun k hk => absurd hk (by simp), b11, fun k hk => absurd hk (by simp)⟩, n2, (bk 14 (by omega)).trans h14, (bk 15 (by omega)).trans h15, (bk 16 (by omega)).trans h16, (bk 17 (by omega)).trans h17, (bk 18 (by omega)).trans h18⟩, by simp, by simp, fun g hg => absurd hg (by simp), fun m hm => by cases hm⟩
    | some b =>
      rw [show k1 rn mn ln n nf na P B ρ ty qs mp hd x2 (gF ρ (EF B none 0) hd B nf 0 x1).1 (gF ρ (EF B none 0) hd B nf 0 x1).2 = k2 mn nf na P B ρ ty qs mp hd x2 (gF ρ (EF B none 0) hd B nf 0 x1).1 (gF ρ (EF B none 0) hd B nf 0 x1).2 (st2 mn ln n P B 25 (qw n P (tl B b) 0).2 (S1 rn B b) (qw n P (tl B b) 0).1 []) by unfold k1; rw [hb]]
      obtain ⟨s6, s7, s12, sg⟩ := rs2 b hb
      have hbo := hv_ok hb
      have hok := hbo.1
      unfold okR at hok
      simp only [Bool.and_eq_true, decide_eq_true_eq] at hok
      obtain ⟨hg, -⟩ := st_root h hbo.2
      obtain ⟨w1, w2, w3, w4⟩ := qw_b (P := P) hg hok.1 hn hok.2.1
      have hRP2 : RP t2 (qw n P (tl B b) 0).1 [] := ⟨s12, sg, b11, fun k hk => absurd hk (by simp)⟩
      have hC2 := hC.tz hz2
      obtain ⟨t3', q3, r3', p3, p4, p5, p6, p7⟩ := cs_fcand (u := u) h hn 25 0 gk_fuel (qw n P (tl B b) 0).2 (S1 rn B b) (qw n P (tl B b) 0).1 [] t2 hC2 (by omega) (by omega) (by unfold gk_fuel; omega) w2 s6 (fun r hr => by rw [s7, hl_mk _ 0 rn (by omega) r (by omega), decide_eq_true (show 0 ≤ r ∧ r < 0 + rn by omega), Bool.true_and]) hRP2 (by omega) (by simp only [List.length_nil]; omega) w4
      generalize st2 mn ln n P B 25 (qw n P (tl B b) 0).2 (S1 rn B b) (qw n P (tl B b) 0).1 [] = R at r3' p3 p4 p5 p6 p7 ⊢
      have hfc : fn_Route_findCandidates (some (z + 14)) (some (z + 3)) (some (z + 19)) (me z D t2 u) = some (b2 R.1.isSome, me z D t3' u) := r3'
      have hz3 : tz t t3' := hz2.trans q3.tz
      have n3 : RN t3' (gF ρ (EF B none 0) hd B nf 0 x1).2 := n2.of (q3.1 13 (by omega)) (q3.2.1 25 (by omega))
      have bk3 : ∀ k, 14 ≤ k → t3'.1 k = t.1 k := fun k hk => (q3.1 k (by omega)).trans (bk k hk)
      have hmp3 : ∀ k, k < 16 → t3'.2.1 26 k = mp k := fun k hk => by rw [hz3.2.1 26 (by omega)]; exact hmp k hk
      simp only [Option.isSome_some, Bool.true_eq_false, if_false, hfc, Option.bind_some, b2_0]
      cases hR : R.1 with
      | none =>
        rw [show k2 mn nf na P B ρ ty qs mp hd x2 (gF ρ (EF B none 0) hd B nf 0 x1).1 (gF ρ (EF B none 0) hd B nf 0 x1).2 R = (stt mp 8 4 8, none, none, 0, -1, R.2.1, R.2.2, (gF ρ (EF B none 0) hd B nf 0 x1).2) by unfold k2; rw [hR]]
        simp only [Option.isSome_none, if_true, cs_59 hmp3]
        exact ⟨t3', hz3, rfl, ⟨p3, n3, (bk3 14 (by omega)).trans h14, (bk3 15 (by omega)).trans h15, (bk3 16 (by omega)).trans h16, (bk3 17 (by omega)).trans h17, (bk3 18 (by omega)).trans h18⟩, p4, p5, p6, fun m hm => by cases hm⟩
      | some C =>
        rw [show k2 mn nf na P B ρ ty qs mp hd x2 (gF ρ (EF B none 0) hd B nf 0 x1).1 (gF ρ (EF B none 0) hd B nf 0 x1).2 R = k3 nf P B ρ mp hd (gF ρ (EF B none 0) hd B nf 0 x1).1 (md (av B C mn)) R.2.1 R.2.2 (gF ρ (EF B none 0) hd B nf 0 x1).2 (s3 mn na B ty qs C (gF ρ (EF B none 0) hd B nf 0 x1).1 x2) by unfold k2; rw [hR]]
        simp only [Option.isSome_some, Bool.true_eq_false, if_false]
        obtain ⟨t4, g1, g2, g3, g4⟩ := cs_k3 (u := u) (mp := mp) h hF hn hkc hA (hAC.tz hz3) (hC.tz hz3) (hFC.tz hz3) hmp3 C (p7 C hR) p3 p4 p6 n3 ((bk3 14 (by omega)).trans h14) ((bk3 15 (by omega)).trans h15) ((bk3 16 (by omega)).trans h16) ((bk3 18 (by omega)).trans h18) hd (gF ρ (EF B none 0) hd B nf 0 x1).1 x2 (fun m => by have := hl3 m; omega)
        refine ⟨t4, hz3.trans g1, g2, g3, ?_, ?_, ?_, g4⟩
        · have : (k3 nf P B ρ mp hd (gF ρ (EF B none 0) hd B nf 0 x1).1 (md (av B C mn)) R.2.1 R.2.2 (gF ρ (EF B none 0) hd B nf 0 x1).2 (s3 mn na B ty qs C (gF ρ (EF B none 0) hd B nf 0 x1).1 x2)).2.2.2.2.2.1 = R.2.1 := by
            unfold k3 k5; split
            · split <;> rfl
            · rfl
          rw [this]; exact p4
        · have : (k3 nf P B ρ mp hd (gF ρ (EF B none 0) hd B nf 0 x1).1 (md (av B C mn)) R.2.1 R.2.2 (gF ρ (EF B none 0) hd B nf 0 x1).2 (s3 mn na B ty qs C (gF ρ (EF B none 0) hd B nf 0 x1).1 x2)).2.2.2.2.2.2.1 = R.2.2 := by
            unfold k3 k5; split
            · split <;> rfl
            · rfl
          rw [this]; exact p5
        · have : (k3 nf P B ρ mp hd (gF ρ (EF B none 0) hd B nf 0 x1).1 (md (av B C mn)) R.2.1 R.2.2 (gF ρ (EF B none 0) hd B nf 0 x1).2 (s3 mn na B ty qs C (gF ρ (EF B none 0) hd B nf 0 x1).1 x2)).2.2.2.2.2.1 = R.2.1 := by
            unfold k3 k5; split
            · split <;> rfl
            · rfl
          rw [this]; exact p6
/-- the filters that ran, and those at the end -/
theorem k0_L {q q' : Nat → Int} (hn8 : nf ≤ 8) (hO : ORD nf ρ q) (hS : ORD nf σ q') (hd x1 x2 : Int32) (m2 : Option Nat) : (k0 rn mn ln n nf na P B ρ ty qs mp hd x1 x2).2.2.2.2.2.2.2.length + (gE σ (EF B m2 2) nf 0).length ≤ 8 := by
  have hl3 := fun m => len3 (B := B) hn8 hO hS hd x1 (gF ρ (EF B none 0) hd B nf 0 x1).1 none m m2
  have h0 := hl3 none
  unfold k0
  split
  · show (gF ρ (EF B none 0) hd B nf 0 x1).2.length + _ ≤ 8
    omega
  · unfold k1
    cases bR mn ln n P B rn with
    | none =>
      show (gF ρ (EF B none 0) hd B nf 0 x1).2.length + _ ≤ 8
      omega
    | some b =>
      show (k2 mn nf na P B ρ ty qs mp hd x2 (gF ρ (EF B none 0) hd B nf 0 x1).1 (gF ρ (EF B none 0) hd B nf 0 x1).2 (st2 mn ln n P B 25 (qw n P (tl B b) 0).2 (S1 rn B b) (qw n P (tl B b) 0).1 [])).2.2.2.2.2.2.2.length + _ ≤ 8
      generalize st2 mn ln n P B 25 (qw n P (tl B b) 0).2 (S1 rn B b) (qw n P (tl B b) 0).1 [] = R
      unfold k2
      cases R.1 with
      | none =>
        show (gF ρ (EF B none 0) hd B nf 0 x1).2.length + _ ≤ 8
        omega
      | some C =>
        show (k3 nf P B ρ mp hd (gF ρ (EF B none 0) hd B nf 0 x1).1 (md (av B C mn)) R.2.1 R.2.2 (gF ρ (EF B none 0) hd B nf 0 x1).2 (s3 mn na B ty qs C (gF ρ (EF B none 0) hd B nf 0 x1).1 x2)).2.2.2.2.2.2.2.length + _ ≤ 8
        generalize s3 mn na B ty qs C (gF ρ (EF B none 0) hd B nf 0 x1).1 x2 = cc
        unfold k3
        cases cc.2 with
        | none =>
          show (gF ρ (EF B none 0) hd B nf 0 x1).2.length + _ ≤ 8
          omega
        | some p =>
          have h1 := hl3 (some p.1)
          show (k5 nf P B ρ mp hd (gF ρ (EF B none 0) hd B nf 0 x1).1 (md (av B C mn)) R.2.1 R.2.2 (gF ρ (EF B none 0) hd B nf 0 x1).2 p.1 p.2).2.2.2.2.2.2.2.length + _ ≤ 8
          have : (k5 nf P B ρ mp hd (gF ρ (EF B none 0) hd B nf 0 x1).1 (md (av B C mn)) R.2.1 R.2.2 (gF ρ (EF B none 0) hd B nf 0 x1).2 p.1 p.2).2.2.2.2.2.2.2 = (gF ρ (EF B none 0) hd B nf 0 x1).2 ++ (gF ρ (EF B (some p.1) 1) hd B nf 0 (gF ρ (EF B none 0) hd B nf 0 x1).1).2 := by
            unfold k5; split <;> rfl
          rw [this, List.length_append]
          omega
end
