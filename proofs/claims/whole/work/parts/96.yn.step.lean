/-! the steps of a request: the dispatcher's -/
def oA (r : Option Nat) (mo : Option Nat) : Int32 := match r with
  | none => -1
  | some _ => oI mo
def oB (r : Option Nat) : Int32 := match r with
  | none => 0
  | some a => nI a
def OT (t : sd_S) (r : RS) : Prop := RP t r.2.2.2.2.2.1 r.2.2.2.2.2.2.1 ∧ RN t r.2.2.2.2.2.2.2 ∧ t.1 14 = oI r.2.1 ∧ t.1 15 = oA r.2.2.1 r.2.1 ∧ t.1 16 = oB r.2.2.1 ∧ t.1 17 = r.2.2.2.1 ∧ t.1 18 = r.2.2.2.2.1
def OB (n mn : Nat) (r : RS) : Prop := r.2.2.2.2.2.1.length ≤ 104 ∧ r.2.2.2.2.2.2.1.length ≤ 24 ∧ (∀ g ∈ r.2.2.2.2.2.1, g.1 ≤ g.2 ∧ g.2 ≤ n) ∧ ∀ m, r.2.1 = some m → m < mn
def tz (t t' : sd_S) : Prop := (∀ k, (k < 6 ∨ 19 ≤ k) → t'.1 k = t.1 k) ∧ (∀ k, (k < 16 ∨ (19 ≤ k ∧ k < 22) ∨ 26 ≤ k) → t'.2.1 k = t.2.1 k) ∧ t'.2.2 = t.2.2
theorem tz.refl (t : sd_S) : tz t t := ⟨fun _ _ => rfl, fun _ _ => rfl, rfl⟩
theorem tz.trans {t t' t'' : sd_S} (h : tz t t') (h' : tz t' t'') : tz t t'' := ⟨fun k a => (h'.1 k a).trans (h.1 k a), fun k a => (h'.2.1 k a).trans (h.2.1 k a), h'.2.2.trans h.2.2⟩
theorem tn.tz {t t' : sd_S} (h : tn t t') : tz t t' := ⟨fun k hk => h.1 k (by omega), fun k hk => h.2.1 k (by omega), h.2.2⟩
theorem tr.tz {t t' : sd_S} (h : tr t t') : tz t t' := ⟨fun k hk => h.1 k (by omega), fun k hk => h.2.1 k (by omega), h.2.2⟩
theorem tz_up {t : sd_S} {k : Nat} {x : Int32} (hk : 6 ≤ k ∧ k < 19) : tz t (upd t.1 k x, t.2) := ⟨fun j hj => pk_un (by omega), fun _ _ => rfl, rfl⟩
theorem CC.tz {rn mn ln n : Nat} {P : Nat → Int32} {P4 P5 P6 : Nat → Option Nat} {t t' : sd_S} (h : CC rn mn ln n P P4 P5 P6 t) (q : tz t t') : CC rn mn ln n P P4 P5 P6 t' := by
  obtain ⟨h1, h2, h3, h4, h5, h6, h7, h8⟩ := h
  obtain ⟨q1, q2, q3⟩ := q
  exact ⟨(q1 1 (by omega)).trans h1, (q1 2 (by omega)).trans h2, (q1 3 (by omega)).trans h3, (q1 19 (by omega)).trans h4, (q2 21 (by omega)).trans h5, by rw [q3]; exact h6, by rw [q3]; exact h7, by rw [q3]; exact h8⟩
theorem FC.tz {n : Nat} {P8 : Nat → Option Nat} {ρ σ : Nat → Nat} {t t' : sd_S} (h : FC n P8 ρ σ t) (q : tz t t') : FC n P8 ρ σ t' := by
  obtain ⟨h1, h2, h3, h4⟩ := h
  refine ⟨(q.1 4 (by omega)).trans h1, by rw [q.2.2]; exact h2, fun i hi => ?_, fun i hi => ?_⟩
  · rw [q.2.1 9 (by omega)]; exact h3 i hi
  · rw [q.2.1 10 (by omega)]; exact h4 i hi
theorem AC.tz {na : Nat} {ty : Nat → Int32} {qs : Nat → Nat} {t t' : sd_S} (h : AC na ty qs t) (q : tz t t') : AC na ty qs t' := ⟨(q.1 5 (by omega)).trans h.1, fun k hk => by rw [q.2.1 12 (by omega), q.2.1 13 (by omega)]; exact h.2 k hk⟩
theorem RN.of {t t' : sd_S} {L : List Nat} (h : RN t L) (h1 : t'.1 13 = t.1 13) (h2 : t'.2.1 25 = t.2.1 25) : RN t' L := ⟨h1.trans h.1, fun i hi => by rw [h2]; exact h.2 i hi⟩
theorem RP.of {t t' : sd_S} {ps : List (Nat × Nat)} {hs : List Int32} (h : RP t ps hs) (h1 : t'.1 11 = t.1 11) (h2 : t'.1 12 = t.1 12) (h3 : t'.2.1 22 = t.2.1 22) (h4 : t'.2.1 23 = t.2.1 23) (h5 : t'.2.1 24 = t.2.1 24) : RP t' ps hs := by
  obtain ⟨a, b, c, d⟩ := h
  exact ⟨h2.trans a, by rw [h4, h5]; exact b, h1.trans c, fun i hi => by rw [h3]; exact d i hi⟩
section
variable {z : Nat} {D : gk_M} {rn mn ln n nf na : Nat} {P : Nat → Int32} {P4 P5 P6 P8 : Nat → Option Nat} {B : Nat → Nat → Int32} {t : sd_S} {u : mo_S} {ρ σ : Nat → Nat} {ty : Nat → Int32} {qs : Nat → Nat} {mp : Nat → Int32} {mo : Option Nat}
theorem cs_runF (h : ST z D rn mn ln P4 P5 P6 B) (hF : FL z D nf P8 B) {K : Nat} (hK : K < 3) (hd v : Int32) (hmo : ∀ m, mo = some m → m < mn) {L : List Nat} (hC : CC rn mn ln n P P4 P5 P6 t) (hFC : FC nf P8 ρ σ t) (h14 : t.1 14 = oI mo) (hR : RN t L) (hL : L.length + (gF ρ (EF B mo K) hd B nf 0 v).2.length ≤ 8) : ∃ t', tn t t' ∧ fn_SD_runFilters (some z) (nI K) v hd (me z D t u) = some ((gF ρ (EF B mo K) hd B nf 0 v).1, me z D t' u) ∧ RN t' (L ++ (gF ρ (EF B mo K) hd B nf 0 v).2) := by
  have hn8 := hF.1
  unfold fn_SD_runFilters fn_SD_runFilters_6
  exact cs_rf h hF K hK hd hmo nf 0 gk_fuel v t L (by omega) (by unfold gk_fuel; omega) hC hFC h14 hR hL
theorem cs_k5 (h : ST z D rn mn ln P4 P5 P6 B) (hF : FL z D nf P8 B) (hn : n ≤ 24) (hkc : ∀ i, i < n → kc (P i) = true) (hC : CC rn mn ln n P P4 P5 P6 t) (hFC : FC nf P8 ρ σ t) (hmp : ∀ k, k < 16 → t.2.1 26 k = mp k) {m : Nat} (hm : m < mn) {ps : List (Nat × Nat)} {hs : List Int32} {L0 : List Nat} (hRP : RP t ps hs) (hlen : ps.length ≤ 104) (hin : ∀ g ∈ ps, g.1 ≤ g.2 ∧ g.2 ≤ n) (hRN : RN t L0) (h14 : t.1 14 = nI m) (h15 : t.1 15 = -1) (h16 : t.1 16 = 0) (hd v0 : Int32) (hL : L0.length + (gF ρ (EF B (some m) 1) hd B nf 0 v0).2.length ≤ 8) : ∃ t', tz t t' ∧ fn_SD_runSteps_86 (some z) hd v0 0 (me z D t u) = some ((k5 nf P B ρ mp hd v0 (t.1 17) ps hs L0 m (t.1 18)).1, me z D t' u) ∧ OT t' (k5 nf P B ρ mp hd v0 (t.1 17) ps hs L0 m (t.1 18)) := by
  have h12 := h.2.1
  obtain ⟨t1, q1, r1, n1⟩ := cs_runF (u := u) (mo := some m) h hF (K := 1) (by omega) hd v0 (fun m' hm' => by cases hm'; exact hm) hC hFC h14 hRN hL
  have c14 : t1.1 14 = nI m := (q1.1 14 (by decide)).trans h14
  have hRP1 : RP t1 ps hs := hRP.of (q1.1 11 (by decide)) (q1.1 12 (by decide)) (q1.2.1 22 (by decide)) (q1.2.1 23 (by decide)) (q1.2.1 24 (by decide))
  rw [show nI 1 = 1 from rfl] at r1
  unfold fn_SD_runSteps_86
  rw [if_pos rfl]
  simp only [sd_gr_0_5, Option.bind_some, sd_gi_14, h14, if_neg (m1_ne m (by omega)), sd_ob_0, r1]
  by_cases c : 100 ≤ (gF ρ (EF B (some m) 1) hd B nf 0 v0).1
  · have e : k5 nf P B ρ mp hd v0 (t.1 17) ps hs L0 m (t.1 18) = ((gF ρ (EF B (some m) 1) hd B nf 0 v0).1, some m, none, t.1 17, t.1 18, ps, hs, L0 ++ (gF ρ (EF B (some m) 1) hd B nf 0 v0).2) := by unfold k5; rw [if_pos c]
    rw [e]
    have c' : ¬ (gF ρ (EF B (some m) 1) hd B nf 0 v0).1 < 100 := by rw [i_nlt]; exact c
    rw [if_neg c']
    exact ⟨t1, q1.tz, rfl, hRP1, n1, c14, (q1.1 15 (by decide)).trans h15, (q1.1 16 (by decide)).trans h16, q1.1 17 (by decide), q1.1 18 (by decide)⟩
  · have e : k5 nf P B ρ mp hd v0 (t.1 17) ps hs L0 m (t.1 18) = (SI mp B m (ag B P ps m), some m, ag B P ps m, t.1 17, t.1 18, ps, hs, L0 ++ (gF ρ (EF B (some m) 1) hd B nf 0 v0).2) := by unfold k5; rw [if_neg c]
    rw [e]
    have c' : (gF ρ (EF B (some m) 1) hd B nf 0 v0).1 < 100 := by rw [← i_nle]; exact c
    rw [if_pos c']
    obtain ⟨o, tr, o1, -, -, -, -, -, -, o11, -, o13, -, -, hmr⟩ := st_met h hm
    have hC1 := hC.tn q1
    have e5 : gk_al (me z D t1 u) 4 (some (z + 5)) (nI m) = some (some o) := by rw [sd_al_5 (by omega), hC1.2.2.2.2.2.2.1, o1]
    have hinv := cs_invoke (z := z) (D := D) (t := t1) (u := u) (P := P) (ps := ps) hn (fun i hi => ⟨by rw [hC1.2.2.2.2.1], hkc i hi⟩) hmr o11 o13 hRP1.1 hlen hRP1.2.1 hin c14
    simp only [sd_gr_0_1, Option.bind_some, sd_gr_3_1, sd_gi_14, c14, e5, sd_ob_0, hinv]
    have hmp1 : ∀ r : Option Nat, ∀ k, k < 16 → (tI t1 m r).2.1 26 k = mp k := fun r k hk => by
      have : (tI t1 m r).2.1 26 = t1.2.1 26 := by cases r <;> rfl
      rw [this, q1.2.1 26 (by decide)]; exact hmp k hk
    obtain ⟨w1, w2⟩ := thw_of hmr
    cases ha : ag B P ps m with
    | none =>
      have hst := cs_statusOf (z := z) (D := D) (u := u) (t := tI t1 m none) (hmp1 none) (j := 8) (by omega)
      rw [show nI 8 = 8 from rfl] at hst
      simp only [if_true, if_neg (show ¬ (8 : Int32) = 0 by decide), sd_ob_0, Option.bind_some, hst]
      exact ⟨t1, q1.tz, rfl, hRP1, n1, c14, (q1.1 15 (by decide)).trans h15, (q1.1 16 (by decide)).trans h16, q1.1 17 (by decide), q1.1 18 (by decide)⟩
    | some a =>
      have ht1 : tI t1 m (some a) = (upd (upd t1.1 15 (nI m)) 16 (nI a), t1.2) := rfl
      have hot : OT (tI t1 m (some a)) (SI mp B m (some a), some m, some a, t.1 17, t.1 18, ps, hs, L0 ++ (gF ρ (EF B (some m) 1) hd B nf 0 v0).2) := by
        rw [ht1]
        have hk : ∀ k, k ≠ 15 → k ≠ 16 → upd (upd t1.1 15 (nI m)) 16 (nI a) k = t1.1 k := fun k a b => (pk_un b).trans (pk_un a)
        refine ⟨hRP1.of (hk 11 (by decide) (by decide)) (hk 12 (by decide) (by decide)) rfl rfl rfl, n1.of (hk 13 (by decide) (by decide)) rfl, (hk 14 (by decide) (by decide)).trans c14, ?_, pk_us (f := upd t1.1 15 (nI m)) (k := 16), (hk 17 (by decide) (by decide)).trans (q1.1 17 (by decide)), (hk 18 (by decide) (by decide)).trans (q1.1 18 (by decide))⟩
        exact (pk_un (f := upd t1.1 15 (nI m)) (k := 16) (j := 15) (x := nI a) (by decide)).trans (pk_us (f := t1.1) (k := 15))
      have htz : tz t (tI t1 m (some a)) := (q1.tz.trans (tz_up (k := 15) (x := nI m) (by omega))).trans (tz_up (k := 16) (x := nI a) (by omega))
      simp only [reduceCtorEq, if_false]
      by_cases c13 : B 13 m = 0
      · rw [if_pos c13]
        refine ⟨tI t1 m (some a), htz, ?_, hot⟩
        simp only [SI, if_pos c13]
      · rw [if_neg c13]
        have hst := cs_statusOf (z := z) (D := D) (u := u) (t := tI t1 m (some a)) (hmp1 (some a)) (j := thw B m) w2
        rw [← w1] at hst
        refine ⟨tI t1 m (some a), htz, ?_, hot⟩
        simp only [sd_ob_0, Option.bind_some, hst, SI, if_neg c13]
theorem cs_k3 (h : ST z D rn mn ln P4 P5 P6 B) (hF : FL z D nf P8 B) (hn : n ≤ 24) (hkc : ∀ i, i < n → kc (P i) = true) (hA : AL na ty qs) (hAC : AC na ty qs t) (hC : CC rn mn ln n P P4 P5 P6 t) (hFC : FC nf P8 ρ σ t) (hmp : ∀ k, k < 16 → t.2.1 26 k = mp k) (C : Nat → Bool) (h8 : t.1 8 = mk C 0 mn) {ps : List (Nat × Nat)} {hs : List Int32} {L0 : List Nat} (hRP : RP t ps hs) (hlen : ps.length ≤ 104) (hin : ∀ g ∈ ps, g.1 ≤ g.2 ∧ g.2 ≤ n) (hRN : RN t L0) (h14 : t.1 14 = -1) (h15 : t.1 15 = -1) (h16 : t.1 16 = 0) (h18 : t.1 18 = -1) (hd v0 x2 : Int32) (hL : ∀ m, L0.length + (gF ρ (EF B (some m) 1) hd B nf 0 v0).2.length ≤ 8) : ∃ t', tz t t' ∧ fn_SD_runSteps_60 (some z) x2 hd v0 1 (me z D t u) = some ((k3 nf P B ρ mp hd v0 (md (av B C mn)) ps hs L0 (s3 mn na B ty qs C v0 x2)).1, me z D t' u) ∧ OT t' (k3 nf P B ρ mp hd v0 (md (av B C mn)) ps hs L0 (s3 mn na B ty qs C v0 x2)) ∧ ∀ m, (k3 nf P B ρ mp hd v0 (md (av B C mn)) ps hs L0 (s3 mn na B ty qs C v0 x2)).2.1 = some m → m < mn := by
  have hmr : ∀ m, m < mn → mrg rn B m := fun m hm => by
    obtain ⟨o', tr', -, -, -, -, -, -, -, -, -, -, -, -, hm'⟩ := st_met h hm
    exact hm'
  have hch := cs_choose (u := u) h hC hA hAC C v0 x2
  have hfn : fn_SD_runSteps_60 (some z) x2 hd v0 1 (me z D t u) = fn_SD_runSteps_86 (some z) hd v0 (if (s3 mn na B ty qs C v0 x2).1 = -1 then 0 else (s3 mn na B ty qs C v0 x2).1) (me z D (t3 t (md (av B C mn)) (s3 mn na B ty qs C v0 x2).2) u) := by
    unfold fn_SD_runSteps_60
    rw [if_neg e10]
    simp only [sd_gr_0_4, Option.bind_some, sd_gi_8, h8, sd_ob_0, hch]
  rw [hfn]
  have hk : ∀ k, k ≠ 17 → upd t.1 17 (md (av B C mn)) k = t.1 k := fun k a => pk_un a
  have hot : ∀ st, OT (upd t.1 17 (md (av B C mn)), t.2) (st, none, none, md (av B C mn), -1, ps, hs, L0) := fun st => ⟨hRP.of (hk 11 (by decide)) (hk 12 (by decide)) rfl rfl rfl, hRN.of (hk 13 (by decide)) rfl, (hk 14 (by decide)).trans h14, (hk 15 (by decide)).trans h15, (hk 16 (by decide)).trans h16, pk_us (f := t.1) (k := 17), (hk 18 (by decide)).trans h18⟩
  rcases s3_c (C := C) (v := v0) (x := x2) hA hmr with hs3 | ⟨j, j1, j2, hs3⟩ | ⟨p, p1, hs3⟩
  · rw [hs3]
    refine ⟨(upd t.1 17 (md (av B C mn)), t.2), tz_up (by omega), ?_, hot _, fun m hm => by cases hm⟩
    have e14 : upd t.1 17 (md (av B C mn)) 14 = -1 := (hk 14 (by decide)).trans h14
    unfold fn_SD_runSteps_86
    rw [if_pos rfl, if_pos rfl]
    simp only [t3, sd_gr_0_5, Option.bind_some, sd_gi_14, e14, if_true, k3]
  · rw [hs3]
    have hst := cs_statusOf (z := z) (D := D) (u := u) (t := (upd t.1 17 (md (av B C mn)), t.2)) (mp := mp) hmp (j := j) (by omega)
    have hj0 : ¬ nI j = 0 := nI_ne0 (by omega) (by omega)
    have hj1 : ¬ nI j = -1 := m1_ne j (by omega)
    refine ⟨(upd t.1 17 (md (av B C mn)), t.2), tz_up (by omega), ?_, hot _, fun m hm => by cases hm⟩
    simp only [if_neg hj1, t3, k3, nI_clamp (show j < 2 ^ 31 by omega)]
    unfold fn_SD_runSteps_86
    rw [if_neg hj0]
    simp only [sd_ob_0, Option.bind_some, hst]
  · rw [hs3]
    rw [if_neg (show ¬ (0 : Int32) = -1 by decide)]
    have ht3 : t3 t (md (av B C mn)) (0, some p).2 = (upd (upd (upd t.1 17 (md (av B C mn))) 14 (nI p.1)) 18 p.2, t.2) := rfl
    have hk3 : ∀ k, k ≠ 17 → k ≠ 14 → k ≠ 18 → upd (upd (upd t.1 17 (md (av B C mn))) 14 (nI p.1)) 18 p.2 k = t.1 k := fun k a b c => ((pk_un c).trans (pk_un b)).trans (pk_un a)
    have htz : tz t (t3 t (md (av B C mn)) (0, some p).2) := by
      rw [ht3]
      exact ⟨fun k hk => hk3 k (by omega) (by omega) (by omega), fun _ _ => rfl, rfl⟩
    have e17 : (t3 t (md (av B C mn)) (0, some p).2).1 17 = md (av B C mn) := by
      rw [ht3]
      exact ((pk_un (f := upd (upd t.1 17 (md (av B C mn))) 14 (nI p.1)) (k := 18) (j := 17) (x := p.2) (by decide)).trans (pk_un (f := upd t.1 17 (md (av B C mn))) (k := 14) (j := 17) (x := nI p.1) (by decide))).trans (pk_us (f := t.1) (k := 17))
    have e18 : (t3 t (md (av B C mn)) (0, some p).2).1 18 = p.2 := by
      rw [ht3]
      exact pk_us (f := upd (upd t.1 17 (md (av B C mn))) 14 (nI p.1)) (k := 18)
    have e14 : (t3 t (md (av B C mn)) (0, some p).2).1 14 = nI p.1 := by
      rw [ht3]
      exact (pk_un (f := upd (upd t.1 17 (md (av B C mn))) 14 (nI p.1)) (k := 18) (j := 14) (x := p.2) (by decide)).trans (pk_us (f := upd t.1 17 (md (av B C mn))) (k := 14))
    obtain ⟨t', g1, g2, g3⟩ := cs_k5 (u := u) (t := t3 t (md (av B C mn)) (0, some p).2) (mp := mp) h hF hn hkc (hC.tz htz) (hFC.tz htz) (fun k hk => by rw [htz.2.1 26 (by omega)]; exact hmp k hk) p1 (hRP.of (hk3 11 (by decide) (by decide) (by decide)) (hk3 12 (by decide) (by decide) (by decide)) rfl rfl rfl) hlen hin (hRN.of (hk3 13 (by decide) (by decide) (by decide)) rfl) e14 ((hk3 15 (by decide) (by decide) (by decide)).trans h15) ((hk3 16 (by decide) (by decide) (by decide)).trans h16) hd v0 (hL p.1)
    rw [e17, e18] at g2 g3
    refine ⟨t', htz.trans g1, g2, g3, fun m hm => ?_⟩
    have hk5 : (k5 nf P B ρ mp hd v0 (md (av B C mn)) ps hs L0 p.1 p.2).2.1 = some p.1 := by unfold k5; split <;> rfl
    have hm : (k5 nf P B ρ mp hd v0 (md (av B C mn)) ps hs L0 p.1 p.2).2.1 = some m := hm
    rw [hk5] at hm
    cases hm
    exact p1
end
