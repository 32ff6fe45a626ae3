abbrev R2 : Type := Option (Nat → Bool) × List (Nat × Nat) × List Int32
def st2 (mn ln n : Nat) (P : Nat → Int32) (B : Nat → Nat → Int32) : Nat → Nat → (Nat → Bool) → List (Nat × Nat) → List Int32 → R2
  | 0, _, _, ps, hs => (none, ps, hs)
  | f + 1, s, S, ps, hs => if anyb (br n P B S s) mn = true then (some (br n P B S s), ps, hs) else match useL B (bM n P B S s mn) (bL n P B S s ln) with
    | some l => st2 mn ln n P B f (qw n P (tl B (18 + l)) s).2 (fun r => decide (nI r = B 16 l)) (ps ++ (qw n P (tl B (18 + l)) s).1) (hs ++ [B 16 l])
    | none => match bM n P B S s mn with
      | some m => (some (mS B S m), ps ++ (qw n P (tl B (6 + m)) s).1, hs)
      | none => (none, ps, hs)
def RP (t : sd_S) (ps : List (Nat × Nat)) (hs : List Int32) : Prop := t.1 12 = nI ps.length ∧ gok ps (t.2.1 23) (t.2.1 24) ∧ t.1 11 = nI hs.length ∧ ∀ i, i < hs.length → t.2.1 22 i = hs.getD i 0
theorem RP.tq {t t' : sd_S} {ps : List (Nat × Nat)} {hs : List Int32} (h : RP t ps hs) (q : tq t t') : RP t' ps hs := by
  obtain ⟨h1, h2, h3, h4⟩ := h
  obtain ⟨q1, q2, -⟩ := q
  refine ⟨(q1 12 (by decide) (by decide)).trans h1, ?_, (q1 11 (by decide) (by decide)).trans h3, ?_⟩
  · rw [q2 23 (by decide) (by decide) (by decide), q2 24 (by decide) (by decide) (by decide)]; exact h2
  · rw [q2 22 (by decide) (by decide) (by decide)]; exact h4
theorem br_en {n : Nat} {P : Nat → Int32} {B : Nat → Nat → Int32} {S : Nat → Bool} {s : Nat} (h : en n P s = true) : br n P B S s = br0 B S := by
  funext m; unfold br; rw [h, Bool.and_true]
theorem br_ne {n : Nat} {P : Nat → Int32} {B : Nat → Nat → Int32} {S : Nat → Bool} {s : Nat} (h : en n P s = false) (m : Nat) : br n P B S s m = false := by
  unfold br; rw [h, Bool.and_false]
theorem useL_l {B : Nat → Nat → Int32} {bm bl : Option Nat} {l : Nat} (h : useL B bm bl = some l) : bl = some l := by
  unfold useL at h
  cases bl with
  | none => cases h
  | some x =>
    cases bm with
    | none => exact h
    | some m =>
      simp only at h
      split at h
      · exact h
      · cases h
theorem qw_47 {n : Nat} {P : Nat → Int32} {l' : List Int32} {s : Nat} (hs : s ≤ n) (hc : qc n P (47 :: l') s = true) : s < (qw n P (47 :: l') s).2 := by
  simp only [qc] at hc
  obtain ⟨e, he⟩ := Option.isSome_iff_exists.mp hc
  obtain ⟨h1, h2, h3, h4⟩ := qL_some hs he
  have : qs 47 s = s + 1 := by unfold qs; rw [if_neg (by decide)]
  rw [this] at h4
  have h5 := (qw_le n P l' e h2 h3).1
  simp only [qw, he, Option.getD_some]
  omega
section
variable {z : Nat} {D : gk_M} {rn mn ln n : Nat} {P : Nat → Int32} {P4 P5 P6 : Nat → Option Nat} {B : Nat → Nat → Int32} {u : mo_S}
theorem cs_fcand (h : ST z D rn mn ln P4 P5 P6 B) (hn : n ≤ 24) : ∀ (f k F s : Nat) (S : Nat → Bool) (ps : List (Nat × Nat)) (hs : List Int32) (t : sd_S), CC rn mn ln n P P4 P5 P6 t → n - s < f → k + (n - s) ≤ 24 → f < F → s ≤ n → t.1 6 = nI s → (∀ r, r < rn → hl (t.1 7) r = S r) → RP t ps hs → ps.length + 4 * (n - s) + 4 ≤ 104 → hs.length + (n - s) ≤ 24 → (∀ g ∈ ps, g.1 ≤ g.2 ∧ g.2 ≤ n) → ∃ t', tr t t' ∧ gk_loop (α := Option Nat × Option Nat × Option Nat × Int32 × gk_M) (fun kk a => fn_Route_findCandidates_2_bd (fun a0 a1 a2 x3 M => kk (a0, a1, a2, x3, M)) a.1 a.2.1 a.2.2.1 a.2.2.2.1 a.2.2.2.2) F (some (z + 14), some (z + 3), some (z + 19), nI k, me z D t u) = some (b2 (st2 mn ln n P B f s S ps hs).1.isSome, me z D t' u) ∧ RP t' (st2 mn ln n P B f s S ps hs).2.1 (st2 mn ln n P B f s S ps hs).2.2 ∧ (st2 mn ln n P B f s S ps hs).2.1.length ≤ 104 ∧ (st2 mn ln n P B f s S ps hs).2.2.length ≤ 24 ∧ (∀ g ∈ (st2 mn ln n P B f s S ps hs).2.1, g.1 ≤ g.2 ∧ g.2 ≤ n) ∧ ∀ C, (st2 mn ln n P B f s S ps hs).1 = some C → t'.1 8 = mk C 0 mn := by
  intro f
  induction f with
  | zero => intro k F s S ps hs t _ h1; omega
  | succ f ih =>
    intro k F s S ps hs t hC hf hk hF hsn h6 h7 hR hpl hhl hpn
    obtain ⟨F, rfl⟩ : ∃ F', F = F' + 1 := ⟨F - 1, by omega⟩
    have hr6 := h.1
    have hm12 := h.2.1
    have hl8 := h.2.2.1
    have hk24 : ¬ (24 : Int32) < nI k := nI_nlt (a := 24) (b := k) (by omega) (by omega)
    have hen := cs_endsAt (tx_pth (z := z) (D := D) (t := t) (u := u) hC.2.2.2.1 hn) hsn
    rw [hC.2.2.2.2.1] at hen
    have hbare := cs_bare (t := t) (u := u) h hC h7
    -- the first half, with the candidates so far
    have hst : ∀ kk : Option Nat × Option Nat × Option Nat × Int32 × gk_M → Option (Int32 × gk_M), fn_Route_findCandidates_2_bd (fun a0 a1 a2 x3 M => kk (a0, a1, a2, x3, M)) (some (z + 14)) (some (z + 3)) (some (z + 19)) (nI k) (me z D t u) = fn_Route_findCandidates_35 (fun a0 a1 a2 x3 M => kk (a0, a1, a2, x3, M)) (some (z + 14)) (some (z + 3)) (some (z + 19)) (nI k) (some (z + 14)) (mk (br n P B S s) 0 mn) (me z D t u) := fun kk => by
      simp only [fn_Route_findCandidates_2_bd, if_neg hk24, sd_gr_19_0, Option.bind_some, sd_gi_6, h6, sd_ob_20, hen, b2_0, sd_gi_7, sd_ob_3, hbare]
      rcases bool_or (en n P s) with he | he
      · simp only [he, if_true]
        rw [mk_0 (fun i _ => br_ne he _)]
      · simp only [he, Bool.true_eq_false, if_false]
        rw [br_en he]
    rw [gk_loop_s]
    show ∃ t', tr t t' ∧ fn_Route_findCandidates_2_bd _ (some (z + 14)) (some (z + 3)) (some (z + 19)) (nI k) (me z D t u) = _ ∧ _
    rw [hst]
    have hm0 : (mk (br n P B S s) 0 mn = 0) = (anyb (br n P B S s) mn = false) := mk_eq0 (by omega)
    have t1r : tr t (upd t.1 8 (mk (br n P B S s) 0 mn), t.2) := ⟨fun k hk => pk_un (by omega), fun _ _ => rfl, rfl⟩
    have hC1 := hC.tr t1r
    rcases bool_or (anyb (br n P B S s) mn) with ha | ha
    · -- no bare method
      have h61 : upd t.1 8 (mk (br n P B S s) 0 mn) 6 = nI s := (pk_un (by decide)).trans h6
      have h71 : ∀ r, r < rn → hl (upd t.1 8 (mk (br n P B S s) 0 mn) 7) r = S r := fun r hr => by rw [pk_un (by decide)]; exact h7 r hr
      have hR1 : RP (upd t.1 8 (mk (br n P B S s) 0 mn), t.2) ps hs := hR
      obtain ⟨t2, a3, q2, e2, r2⟩ := cs_hMet (u := u) h hC1 hn hsn h61 h71
      have hC2 := hC1.tq q2
      obtain ⟨t3, q3, e3⟩ := cs_hLoc (u := u) (S := S) h hC2 hn hsn ((q2.1 6 (by decide) (by decide)).trans h61) (fun r hr => by rw [q2.1 7 (by decide) (by decide)]; exact h71 r hr)
      have hC3 := hC2.tq q3
      have h63 : t3.1 6 = nI s := (q3.1 6 (by decide) (by decide)).trans ((q2.1 6 (by decide) (by decide)).trans h61)
      have h73 : ∀ r, r < rn → hl (t3.1 7) r = S r := fun r hr => by rw [q3.1 7 (by decide) (by decide), q2.1 7 (by decide) (by decide)]; exact h71 r hr
      have hR3 := (hR1.tq q2).tq q3
      have tr3 : tr t t3 := (t1r.trans q2.tr).trans q3.tr
      have c53 := hC3.2.2.2.2.1
      simp only [st2, ha, Bool.false_eq_true, if_false]
      -- a method's template
      have hmet : useL B (bM n P B S s mn) (bL n P B S s ln) = none → ∃ t', tr t t' ∧ fn_Route_findCandidates_125 (some (z + 14)) (some (z + 3)) (some (z + 19)) a3 (me z D t3 u) = some (b2 (match bM n P B S s mn with | some m => ((some (mS B S m), ps ++ (qw n P (tl B (6 + m)) s).1, hs) : R2) | none => (none, ps, hs)).1.isSome, me z D t' u) ∧ RP t' (match bM n P B S s mn with | some m => ((some (mS B S m), ps ++ (qw n P (tl B (6 + m)) s).1, hs) : R2) | none => (none, ps, hs)).2.1 (match bM n P B S s mn with | some m => ((some (mS B S m), ps ++ (qw n P (tl B (6 + m)) s).1, hs) : R2) | none => (none, ps, hs)).2.2 ∧ (match bM n P B S s mn with | some m => ((some (mS B S m), ps ++ (qw n P (tl B (6 + m)) s).1, hs) : R2) | none => (none, ps, hs)).2.1.length ≤ 104 ∧ (match bM n P B S s mn with | some m => ((some (mS B S m), ps ++ (qw n P (tl B (6 + m)) s).1, hs) : R2) | none => (none, ps, hs)).2.2.length ≤ 24 ∧ (∀ g ∈ (match bM n P B S s mn with | some m => ((some (mS B S m), ps ++ (qw n P (tl B (6 + m)) s).1, hs) : R2) | none => (none, ps, hs)).2.1, g.1 ≤ g.2 ∧ g.2 ≤ n) ∧ ∀ C, (match bM n P B S s mn with | some m => ((some (mS B S m), ps ++ (qw n P (tl B (6 + m)) s).1, hs) : R2) | none => (none, ps, hs)).1 = some C → t'.1 8 = mk C 0 mn := by
        intro _
        cases hb : bM n P B S s mn with
        | none =>
          rw [hb] at r2
          have r2 : a3 = none := r2
          refine ⟨t3, tr3, ?_, hR3, by show ps.length ≤ 104; omega, by show hs.length ≤ 24; omega, hpn, fun C hC => by cases hC⟩
          simp only [fn_Route_findCandidates_125, if_pos r2, ev_z0, Option.bind_some, Option.isSome_none, b2_f]
        | some m =>
          rw [hb] at r2
          obtain ⟨a, r3, r4⟩ := r2
          have hbo := hv_ok hb
          have hok := hbo.1
          unfold okM at hok
          simp only [Bool.and_eq_true, decide_eq_true_eq] at hok
          obtain ⟨-, -, -, -, -, -, -, -, -, -, -, -, bg1, -, -⟩ := st_met h hbo.2
          obtain ⟨t4, f1, f2, f3, f4, f5⟩ := cs_follow (u := u) (ps := ps) r4 (bg1.2.2.2.2 hok.1.1).1 hC3.2.2.2.1 hn hsn h63 (by rw [c53]; exact hok.2.1) hR3.1 hR3.2.1 (by omega)
          rw [c53] at f3 f4 f5
          have hC4 := hC3.tr f1.tr
          have h74 : t4.1 7 = t3.1 7 := f1.1 7 (by decide) (by decide) (by decide) (by decide)
          have hmw := cs_methodsWith (u := u) (t := t4) (S := S) (x := t4.1 7) h hC4 (fun r hr => by rw [h74]; exact h73 r hr) r4
          have hql := qw_len n P (tl B (6 + m)) s
          have hn4 := (bg1.2.2.2.2 hok.1.1).1
          refine ⟨(upd t4.1 8 (mk (mS B S m) 0 mn), t4.2), (tr3.trans f1.tr).trans ⟨fun k hk => pk_un (by omega), fun _ _ => rfl, rfl⟩, ?_, ?_, ?_, by show hs.length ≤ 24; omega, ?_, fun C hC => ?_⟩
          · simp only [fn_Route_findCandidates_125, r3, reduceCtorEq, if_false, sd_ob_14, Option.bind_some, f2, sd_gi_7, sd_ob_3, hmw, sd_pf_8, ev_z1, Option.isSome_some, b2_t]
          · refine ⟨(show upd t4.1 8 (mk (mS B S m) 0 mn) 12 = t4.1 12 from pk_un (by decide)).trans f4, f5, (show upd t4.1 8 (mk (mS B S m) 0 mn) 11 = t4.1 11 from pk_un (by decide)).trans ((f1.1 11 (by decide) (by decide) (by decide) (by decide)).trans hR3.2.2.1), ?_⟩
            show ∀ i, i < hs.length → t4.2.1 22 i = hs.getD i 0
            rw [f1.2.1 22 (by decide) (by decide) (by decide) (by decide) (by decide)]
            exact hR3.2.2.2
          · show (ps ++ (qw n P (tl B (6 + m)) s).1).length ≤ 104
            rw [List.length_append]; omega
          · show ∀ g ∈ ps ++ (qw n P (tl B (6 + m)) s).1, g.1 ≤ g.2 ∧ g.2 ≤ n
            intro g hg
            rw [List.mem_append] at hg
            rcases hg with hg | hg
            · exact hpn g hg
            · exact (qw_le n P _ s hsn hok.2.1).2.2 g hg
          · cases hC
            exact (show upd t4.1 8 (mk (mS B S m) 0 mn) 8 = _ from pk_us)
      -- a locator
      have hloc : ∀ l, useL B (bM n P B S s mn) (bL n P B S s ln) = some l → ∃ t4, tr t t4 ∧ CC rn mn ln n P P4 P5 P6 t4 ∧ (∀ kk : Option Nat × Option Nat × Option Nat × Int32 × gk_M → Option (Int32 × gk_M), fn_Route_findCandidates_92 (fun a0 a1 a2 x3 M => kk (a0, a1, a2, x3, M)) (some (z + 14)) (some (z + 3)) (some (z + 19)) (nI k) (P6 l) (me z D t3 u) = kk (some (z + 14), some (z + 3), some (z + 19), nI (k + 1), me z D t4 u)) ∧ t4.1 6 = nI (qw n P (tl B (18 + l)) s).2 ∧ (∀ r, r < rn → hl (t4.1 7) r = decide (nI r = B 16 l)) ∧ RP t4 (ps ++ (qw n P (tl B (18 + l)) s).1) (hs ++ [B 16 l]) ∧ s < (qw n P (tl B (18 + l)) s).2 ∧ (qw n P (tl B (18 + l)) s).2 ≤ n ∧ (qw n P (tl B (18 + l)) s).1.length ≤ 4 ∧ ∀ g ∈ (qw n P (tl B (18 + l)) s).1, g.1 ≤ g.2 ∧ g.2 ≤ n := by
        intro l hul
        have hbl := useL_l hul
        have hbo := hv_ok hbl
        have hok := hbo.1
        unfold okL at hok
        rw [Bool.and_eq_true] at hok
        obtain ⟨o, a, o1, o2, o3, o4, hg, o6, o7, -, ⟨j, hj, hB⟩⟩ := st_loc h hbo.2
        obtain ⟨hg4, l', hl'⟩ := hg.2.2.2.2 o6
        obtain ⟨t4, f1, f2, f3, f4, f5⟩ := cs_follow (u := u) (ps := ps) o7 hg4 hC3.2.2.2.1 hn hsn h63 (by rw [c53]; exact hok.2) hR3.1 hR3.2.1 (by omega)
        rw [c53] at f3 f4 f5
        have hw := qw_le n P (tl B (18 + l)) s hsn hok.2
        have hlt : s < (qw n P (tl B (18 + l)) s).2 := by
          have hh := hok.2
          rw [hl'] at hh ⊢
          exact qw_47 hsn hh
        have h114 : t4.1 11 = nI hs.length := (f1.1 11 (by decide) (by decide) (by decide) (by decide)).trans hR3.2.2.1
        have h224 : ∀ i, i < hs.length → t4.2.1 22 i = hs.getD i 0 := by
          rw [f1.2.1 22 (by decide) (by decide) (by decide) (by decide) (by decide)]
          exact hR3.2.2.2
        refine ⟨(upd (upd t4.1 7 ((1 : Int32) <<< (B 16 l &&& 31))) 11 (nI (hs.length + 1)), up2 t4.2.1 22 hs.length (B 16 l), t4.2.2), ?_, ?_, fun kk => ?_, ?_, fun r hr => ?_, ?_, hlt, hw.2.1, by rw [qw_len]; exact hg4, hw.2.2⟩
        · exact (tr3.trans f1.tr).trans ⟨fun k hk => (show upd (upd t4.1 7 ((1 : Int32) <<< (B 16 l &&& 31))) 11 (nI (hs.length + 1)) k = t4.1 k from (pk_un (by omega)).trans (pk_un (by omega))), fun k hk => up2_ne _ _ _ (by omega), rfl⟩
        · exact (hC3.tr f1.tr).tr ⟨fun k hk => (show upd (upd t4.1 7 ((1 : Int32) <<< (B 16 l &&& 31))) 11 (nI (hs.length + 1)) k = t4.1 k from (pk_un (by omega)).trans (pk_un (by omega))), fun k hk => up2_ne _ _ _ (by omega), rfl⟩
        · have e11 : upd t4.1 7 ((1 : Int32) <<< (B 16 l &&& 31)) 11 = nI hs.length := (pk_un (by decide)).trans h114
          rw [o1]
          simp only [fn_Route_findCandidates_92, o3, Option.bind_some, sd_ob_14, f2, o4, sd_pf_7, sd_ob_19, fn_Outcome_addHop, sd_gi_11, e11, sd_gr_19_1, sd_ln_22, if_neg (nI_ge (show hs.length < 24 by omega) (by omega)), sd_is_22 (show hs.length < 24 by omega), nar_int, sd_pf_11, nI_1]
        · exact (show upd (upd t4.1 7 ((1 : Int32) <<< (B 16 l &&& 31))) 11 (nI (hs.length + 1)) 6 = t4.1 6 from (pk_un (by decide)).trans (pk_un (by decide))).trans f3
        · have e7 : upd (upd t4.1 7 ((1 : Int32) <<< (B 16 l &&& 31))) 11 (nI (hs.length + 1)) 7 = (1 : Int32) <<< (nI j &&& 31) := by
            rw [pk_un (by decide), pk_us, hB]
          show hl (upd (upd t4.1 7 ((1 : Int32) <<< (B 16 l &&& 31))) 11 (nI (hs.length + 1)) 7) r = _
          rw [e7, hl_one (by omega) (by omega), hB]
          by_cases e : r = j
          · rw [decide_eq_true e, decide_eq_true (by rw [e])]
          · rw [decide_eq_false e, decide_eq_false (fun q => e (nI_in2 (by omega) (by omega) q))]
        · refine ⟨(show upd (upd t4.1 7 ((1 : Int32) <<< (B 16 l &&& 31))) 11 (nI (hs.length + 1)) 12 = t4.1 12 from (pk_un (by decide)).trans (pk_un (by decide))).trans f4, f5, ?_, fun i hi => ?_⟩
          · show upd (upd t4.1 7 ((1 : Int32) <<< (B 16 l &&& 31))) 11 (nI (hs.length + 1)) 11 = _
            rw [pk_us, List.length_append]; rfl
          · rw [List.length_append, List.length_singleton] at hi
            show up2 t4.2.1 22 hs.length (B 16 l) 22 i = _
            rw [up2_self]
            by_cases e : i = hs.length
            · subst e; rw [pk_us, getD_e]
            · rw [pk_un e, getD_l (by omega)]; exact h224 i (by omega)
      have e35 : ∀ kk : Option Nat × Option Nat × Option Nat × Int32 × gk_M → Option (Int32 × gk_M), fn_Route_findCandidates_35 (fun a0 a1 a2 x3 M => kk (a0, a1, a2, x3, M)) (some (z + 14)) (some (z + 3)) (some (z + 19)) (nI k) (some (z + 14)) (mk (br n P B S s) 0 mn) (me z D t u) = match useL B (bM n P B S s mn) (bL n P B S s ln) with | none => fn_Route_findCandidates_125 (some (z + 14)) (some (z + 3)) (some (z + 19)) a3 (me z D t3 u) | some l => fn_Route_findCandidates_92 (fun a0 a1 a2 x3 M => kk (a0, a1, a2, x3, M)) (some (z + 14)) (some (z + 3)) (some (z + 19)) (nI k) (P6 l) (me z D t3 u) := fun kk => by
        simp only [fn_Route_findCandidates_35, sd_pf_8, Option.bind_some, sd_gi_8, pk_us, hm0, ha, if_true, sd_gr_19_0, sd_ob_14, e2, e3]
        cases hbl : bL n P B S s ln with
        | none => simp only [Option.bind_none, if_true, useL]
        | some l =>
          have hlo := hv_ok hbl
          obtain ⟨o, a, o1, o2, o3, o4, hg, o6, o7, -⟩ := st_loc h hlo.2
          obtain ⟨hg4, -⟩ := hg.2.2.2.2 o6
          obtain ⟨fs, hfs⟩ := tpl_ob o7
          simp only [Option.bind_some, o1, reduceCtorEq, if_false]
          cases hbm : bM n P B S s mn with
          | none =>
            rw [hbm] at r2
            have r2 : a3 = none := r2
            simp only [if_pos r2, useL, o1]
          | some m =>
            rw [hbm] at r2
            obtain ⟨a2, r3, r4⟩ := r2
            have hmo := hv_ok hbm
            have hok := hmo.1
            unfold okM at hok
            simp only [Bool.and_eq_true, decide_eq_true_eq] at hok
            obtain ⟨-, -, -, -, -, -, -, -, -, -, -, -, bg1, -, -⟩ := st_met h hmo.2
            have hhv := cs_heavier (t := t3) (u := u) o7 r4 hg4 (bg1.2.2.2.2 hok.1.1).1
            simp only [r3, reduceCtorEq, if_false, o3, Option.bind_some, hfs, hhv, b2_d0, useL]
            by_cases cw : Wt (tl B (6 + m)) < Wt (tl B (18 + l))
            · simp only [cw, not_true_eq_false, if_false, if_true, o1]
            · simp only [cw, not_false_eq_true, if_true, if_false]
      rw [e35]
      cases hu : useL B (bM n P B S s mn) (bL n P B S s ln) with
      | none => exact hmet hu
      | some l =>
        obtain ⟨t4, g1, g2, g3, g4, g5, g6, g7, g8, g9, g10⟩ := hloc l hu
        obtain ⟨t5, k1, k2, k3, k4, k5, k6, k7⟩ := ih (k + 1) F (qw n P (tl B (18 + l)) s).2 (fun r => decide (nI r = B 16 l)) (ps ++ (qw n P (tl B (18 + l)) s).1) (hs ++ [B 16 l]) t4 g2 (by omega) (by omega) (by omega) g8 g4 g5 g6 (by rw [List.length_append]; omega) (by rw [List.length_append, List.length_singleton]; omega) (fun g hg => by
          rw [List.mem_append] at hg
          rcases hg with hg | hg
          · exact hpn g hg
          · exact g10 g hg)
        refine ⟨t5, g1.trans k1, ?_, k3, k4, k5, k6, k7⟩
        rw [← k2]
        exact g3 _
    · refine ⟨(upd t.1 8 (mk (br n P B S s) 0 mn), t.2), t1r, ?_, ?_, ?_, ?_, ?_, ?_⟩
      · simp only [fn_Route_findCandidates_35, sd_pf_8, Option.bind_some, sd_gi_8, pk_us, hm0, ha, Bool.true_eq_false, if_false, ev_z1, st2, if_true, Option.isSome_some, b2_t]
      · simp only [st2, ha, if_true]
        exact hR
      · simp only [st2, ha, if_true]
        omega
      · simp only [st2, ha, if_true]
        omega
      · simp only [st2, ha, if_true]
        exact hpn
      · simp only [st2, ha, if_true]
        intro C hC
        cases hC
        exact (show upd t.1 8 (mk (br n P B S s) 0 mn) 8 = _ from pk_us)
end
