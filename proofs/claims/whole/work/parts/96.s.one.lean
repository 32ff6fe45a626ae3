/-! the heaviest -/
def hv (ok : Nat → Bool) (W : Nat → Nat) : Nat → Option Nat
  | 0 => none
  | k + 1 => match hv ok W k with
    | none => if ok k = true then some k else none
    | some b => if ok k = true ∧ W b < W k then some k else some b
theorem hv_ok {ok : Nat → Bool} {W : Nat → Nat} : ∀ {k b : Nat}, hv ok W k = some b → ok b = true ∧ b < k
  | 0, b, h => by cases h
  | k + 1, b, h => by
    simp only [hv] at h
    cases hq : hv ok W k with
    | none =>
      rw [hq] at h
      simp only at h
      split at h
      · rename_i c; cases h; exact ⟨c, by omega⟩
      · cases h
    | some c =>
      rw [hq] at h
      simp only at h
      split at h
      · rename_i c'; cases h; exact ⟨c'.1, by omega⟩
      · cases h
        obtain ⟨h1, h2⟩ := hv_ok hq
        exact ⟨h1, by omega⟩
theorem Wt_le {l : List Int32} (h : l.length ≤ 24) : Wt l ≤ 3000 := by
  have h1 := ngr_le l
  have h2 := nnr_le l
  unfold Wt
  omega
theorem tl_len {B : Nat → Nat → Int32} {T : Nat} (h : tgd B T) : (tl B T).length ≤ 24 := Nat.le_trans pk_len h.2.1
def tr (t t' : sd_S) : Prop := (∀ k, (k < 6 ∨ 13 ≤ k) → t'.1 k = t.1 k) ∧ (∀ k, (k < 16 ∨ (19 ≤ k ∧ k < 22) ∨ 25 ≤ k) → t'.2.1 k = t.2.1 k) ∧ t'.2.2 = t.2.2
theorem tr.trans {t t' t'' : sd_S} (h : tr t t') (h' : tr t' t'') : tr t t'' := ⟨fun k a => (h'.1 k a).trans (h.1 k a), fun k a => (h'.2.1 k a).trans (h.2.1 k a), h'.2.2.trans h.2.2⟩
theorem tr.refl (t : sd_S) : tr t t := ⟨fun _ _ => rfl, fun _ _ => rfl, rfl⟩
theorem tq.tr {t t' : sd_S} (h : tq t t') : tr t t' := ⟨fun k hk => h.1 k (by omega) (by omega), fun k hk => h.2.1 k (by omega) (by omega) (by omega), h.2.2⟩
theorem tf.tr {t t' : sd_S} (h : tf t t') : tr t t' := ⟨fun k hk => h.1 k (by omega) (by omega) (by omega) (by omega), fun k hk => h.2.1 k (by omega) (by omega) (by omega) (by omega) (by omega), h.2.2⟩
theorem CC.tr {rn mn ln n : Nat} {P : Nat → Int32} {P4 P5 P6 : Nat → Option Nat} {t t' : sd_S} (h : CC rn mn ln n P P4 P5 P6 t) (q : tr t t') : CC rn mn ln n P P4 P5 P6 t' := by
  obtain ⟨h1, h2, h3, h4, h5, h6, h7, h8⟩ := h
  obtain ⟨q1, q2, q3⟩ := q
  exact ⟨(q1 1 (by omega)).trans h1, (q1 2 (by omega)).trans h2, (q1 3 (by omega)).trans h3, (q1 19 (by omega)).trans h4, (q2 21 (by omega)).trans h5, by rw [q3]; exact h6, by rw [q3]; exact h7, by rw [q3]; exact h8⟩
def okR (mn ln n : Nat) (P : Nat → Int32) (B : Nat → Nat → Int32) (r : Nat) : Bool := decide (0 < tm B r) && (qc n P (tl B r) 0 && (en n P (qw n P (tl B r) 0).2 || dp mn ln B r))
def bR (mn ln n : Nat) (P : Nat → Int32) (B : Nat → Nat → Int32) (k : Nat) : Option Nat := hv (okR mn ln n P B) (fun r => Wt (tl B r)) k
def S1 (rn : Nat) (B : Nat → Nat → Int32) (b r : Nat) : Bool := decide (0 < tm B r) && decide (tl B r = tl B b)
section
variable {z : Nat} {D : gk_M} {rn mn ln n : Nat} {P : Nat → Int32} {P4 P5 P6 : Nat → Option Nat} {B : Nat → Nat → Int32} {t : sd_S} {u : mo_S}
theorem cs_fc46 (h : ST z D rn mn ln P4 P5 P6 B) (hC : CC rn mn ln n P P4 P5 P6 t) (hn : n ≤ 24) (h6 : t.1 6 = 0) {r a : Nat} (hr : r < rn) (ha : P4 r = some a) : ∃ t', tq t t' ∧ ∀ K (a3 : Option Nat), fn_Route_findClasses_46 K (some (z + 14)) (some (z + 3)) (some (z + 19)) a3 (nI r) (some a) (me z D t u) = K (some (z + 14)) (some (z + 3)) (some (z + 19)) (if okR mn ln n P B r = true then some a else a3) (nI (r + 1)) (me z D t' u) := by
  obtain ⟨g1, g2⟩ := st_root h hr
  rcases g2 with ⟨g2, -⟩ | ⟨a', g2, g3, g4⟩
  · rw [ha] at g2; cases g2
  · rw [ha] at g2
    cases g2
    have c5 := hC.2.2.2.2.1
    obtain ⟨t', q1, q2, q3⟩ := cs_find (u := u) g4 (g1.2.2.2.2 g3).1 hC.2.2.2.1 hn (show 0 ≤ n by omega)
    rw [c5] at q2 q3
    refine ⟨t', q1, fun K a3 => ?_⟩
    have hC' := hC.tq q1
    cases hc : qc n P (tl B r) 0 with
    | false =>
      rw [hc] at q2
      rw [nI_0] at q2
      simp only [fn_Route_findClasses_46, sd_gr_14_0, Option.bind_some, sd_gr_19_0, sd_gi_6, h6, sd_ob_15, q2, b2_f, if_true, fn_Route_findClasses_95, okR, hc, Bool.false_and, Bool.and_false, Bool.false_eq_true, if_false, nI_1]
    | true =>
      rw [hc] at q2
      rw [nI_0] at q2
      obtain ⟨r1, r2, -⟩ := q3 hc
      have hle := (qw_le n P (tl B r) 0 (by omega) hc).2.1
      have hen := cs_endsAt (tx_pth (z := z) (D := D) (t := t') (u := u) hC'.2.2.2.1 hn) hle
      rw [hC'.2.2.2.2.1] at hen
      have hdp := cs_leads (u := u) h hC' r
      simp only [fn_Route_findClasses_46, sd_gr_14_0, Option.bind_some, sd_gr_19_0, sd_gi_6, h6, sd_ob_15, q2, b2_t, if_neg e10, sd_gi_10, r2, sd_ob_20, hen, b2_0, sd_ob_3, hdp, fn_Route_findClasses_95, fn_Route_findClasses_92, okR, hc, g3, decide_true, Bool.true_and, nI_1]
      cases en n P (qw n P (tl B r) 0).2 with
      | true => simp only [Bool.true_eq_false, if_false, Bool.true_or, if_true]
      | false =>
        simp only [if_true, Bool.false_or]
        cases dp mn ln B r with
        | true => simp only [Bool.true_eq_false, if_false, if_true]
        | false => simp only [if_true, Bool.false_eq_true, if_false]
theorem cs_rootsWith (h : ST z D rn mn ln P4 P5 P6 B) (hC : CC rn mn ln n P P4 P5 P6 t) {b a : Nat} (ha : tpl z D a (tl B b)) : fn_Catalog_rootsWith (some (z + 3)) (some a) (me z D t u) = some (mk (S1 rn B b) 0 rn, me z D t u) := by
  have h6 := h.1
  unfold fn_Catalog_rootsWith fn_Catalog_rootsWith_4
  obtain ⟨a', w, h1, h2⟩ := lp_to (body := fun (kk : Option Nat × Option Nat × Int32 × Int32 × gk_M → Option (Int32 × gk_M)) a => fn_Catalog_rootsWith_4_bd (fun a0 a1 x2 x3 M => kk (a0, a1, x2, x3, M)) a.1 a.2.1 a.2.2.1 a.2.2.2.1 a.2.2.2.2) (fun i st => st = (some (z + 3), some a, mk (S1 rn B b) 0 i, nI i, me z D t u)) rn (fun i st hi hst => by
    subst hst
    refine ⟨_, rfl, fun kk => ?_⟩
    obtain ⟨g1, g2⟩ := st_root h hi
    have e4 : gk_al (me z D t u) 3 (some (z + 4)) (nI i) = some (P4 i) := by rw [sd_al_4 (by omega), hC.2.2.2.2.2.1]
    have ez : ∀ x : Int32, x ||| 0 = x := fun x => by
      rw [← Int32.toBitVec_inj, Int32.toBitVec_or]
      exact BitVec.or_zero
    simp only [fn_Catalog_rootsWith_4_bd, sd_gi_1, hC.1, Option.bind_some, if_neg (nI_ge hi (by omega)), sd_gr_3_0, e4, fn_Catalog_rootsWith_40, mk, Nat.zero_add, nI_1]
    rcases g2 with ⟨g2, g3⟩ | ⟨a', g2, g3, g4⟩
    · have : S1 rn B b i = false := by unfold S1; rw [g3, decide_eq_false (Nat.lt_irrefl 0), Bool.false_and]
      rw [if_pos g2, this, if_neg (by decide), ez]
    · obtain ⟨fs, hfs⟩ := tpl_ob g4
      have hsm := cs_same (t := t) (u := u) g4 ha
      have hS : S1 rn B b i = decide (tl B i = tl B b) := by unfold S1; rw [decide_eq_true g3, Bool.true_and]
      rw [g2, if_neg (by simp), hS]
      simp only [hfs, Option.bind_some, hsm, b2_0]
      cases decide (tl B i = tl B b) with
      | true => simp only [Bool.true_eq_false, if_false, if_true]
      | false => simp only [if_true, Bool.false_eq_true, if_false, ez]) rn 0 gk_fuel (some (z + 3), some a, 0, 0, me z D t u) (by omega) (by unfold gk_fuel; omega) rfl
  subst h1
  rw [h2]
  simp only [fn_Catalog_rootsWith_4_bd, sd_gi_1, hC.1, Option.bind_some, if_pos (Int32.le_refl _)]
theorem cs_findClasses (h : ST z D rn mn ln P4 P5 P6 B) (hC : CC rn mn ln n P P4 P5 P6 t) (hn : n ≤ 24) (h12 : t.1 12 = 0) : ∃ t', tr t t' ∧ t'.1 11 = t.1 11 ∧ t'.2.1 22 = t.2.1 22 ∧ fn_Route_findClasses (some (z + 14)) (some (z + 3)) (some (z + 19)) (me z D t u) = some (b2 (bR mn ln n P B rn).isSome, me z D t' u) ∧ (bR mn ln n P B rn = none → t'.1 12 = 0) ∧ ∀ b, bR mn ln n P B rn = some b → t'.1 6 = nI (qw n P (tl B b) 0).2 ∧ t'.1 7 = mk (S1 rn B b) 0 rn ∧ t'.1 12 = nI (qw n P (tl B b) 0).1.length ∧ gok (qw n P (tl B b) 0).1 (t'.2.1 23) (t'.2.1 24) := by
  have h6 := h.1
  unfold fn_Route_findClasses fn_Route_findClasses_10
  rw [sd_pf_6, Option.bind_some]
  have hC1 : CC rn mn ln n P P4 P5 P6 (upd t.1 6 0, t.2) := hC
  obtain ⟨a', w, h1, h2⟩ := lp_to (body := fun (kk : Option Nat × Option Nat × Option Nat × Option Nat × Int32 × gk_M → Option (Int32 × gk_M)) a => fn_Route_findClasses_10_bd (fun a0 a1 a2 a3 x4 M => kk (a0, a1, a2, a3, x4, M)) a.1 a.2.1 a.2.2.1 a.2.2.2.1 a.2.2.2.2.1 a.2.2.2.2.2) (fun i st => ∃ t', tq (upd t.1 6 0, t.2) t' ∧ st = (some (z + 14), some (z + 3), some (z + 19), (bR mn ln n P B i).bind P4, nI i, me z D t' u)) rn (fun i st hi hst => by
    obtain ⟨t', q, rfl⟩ := hst
    have hC' := hC1.tq q
    have h6' : t'.1 6 = 0 := q.1 6 (by decide) (by decide)
    obtain ⟨g1, g2⟩ := st_root h hi
    have e4 : gk_al (me z D t' u) 3 (some (z + 4)) (nI i) = some (P4 i) := by rw [sd_al_4 (by omega), hC'.2.2.2.2.2.1]
    rcases g2 with ⟨g2, g3⟩ | ⟨a, g2, g3, g4⟩
    · refine ⟨_, ⟨t', q, rfl⟩, fun kk => ?_⟩
      have hk : okR mn ln n P B i = false := by unfold okR; rw [g3, decide_eq_false (Nat.lt_irrefl 0), Bool.false_and]
      have hb : bR mn ln n P B (i + 1) = bR mn ln n P B i := by
        simp only [bR, hv, hk, Bool.false_eq_true, false_and, if_false]
        cases hv (okR mn ln n P B) (fun r => Wt (tl B r)) i <;> rfl
      simp only [fn_Route_findClasses_10_bd, sd_gi_1, hC'.1, Option.bind_some, if_neg (nI_ge hi (by omega)), sd_gr_3_0, e4, g2, if_true, fn_Route_findClasses_95, hb, nI_1]
    · obtain ⟨t'', q', hK⟩ := cs_fc46 (u := u) h hC' hn h6' hi g2
      cases hb : bR mn ln n P B i with
      | none =>
        refine ⟨_, ⟨t'', q.trans q', rfl⟩, fun kk => ?_⟩
        have hb1 : bR mn ln n P B (i + 1) = if okR mn ln n P B i = true then some i else none := by
          simp only [bR] at hb
          simp only [bR, hv, hb]
        simp only [fn_Route_findClasses_10_bd, sd_gi_1, hC'.1, Option.bind_some, if_neg (nI_ge hi (by omega)), sd_gr_3_0, e4, g2, reduceCtorEq, if_false, Option.bind_none, if_true, hK, hb1]
        cases okR mn ln n P B i with
        | true => simp only [if_true, Option.bind_some, g2]
        | false => simp only [Bool.false_eq_true, if_false, Option.bind_none]
      | some b =>
        have hbo := hv_ok hb
        obtain ⟨bg1, bg2⟩ := st_root h (show b < rn by omega)
        rcases bg2 with ⟨-, bg3⟩ | ⟨a2, bg2, bg3, bg4⟩
        · exfalso
          have := hbo.1
          unfold okR at this
          rw [bg3, decide_eq_false (Nat.lt_irrefl 0), Bool.false_and] at this
          cases this
        · have hhv := cs_heavier (t := t') (u := u) g4 bg4 (g1.2.2.2.2 g3).1 (bg1.2.2.2.2 bg3).1
          obtain ⟨fs, hfs⟩ := tpl_ob g4
          have hb1 : bR mn ln n P B (i + 1) = if okR mn ln n P B i = true ∧ Wt (tl B b) < Wt (tl B i) then some i else some b := by
            simp only [bR] at hb
            simp only [bR, hv, hb]
          by_cases cw : Wt (tl B b) < Wt (tl B i)
          · rw [decide_eq_true cw, b2_t] at hhv
            refine ⟨_, ⟨t'', q.trans q', rfl⟩, fun kk => ?_⟩
            simp only [fn_Route_findClasses_10_bd, sd_gi_1, hC'.1, Option.bind_some, if_neg (nI_ge hi (by omega)), sd_gr_3_0, e4, g2, reduceCtorEq, if_false, bg2, hfs, hhv, if_neg e10, hK, hb1, cw, and_true]
            cases okR mn ln n P B i with
            | true => simp only [if_true, Option.bind_some, g2]
            | false => simp only [Bool.false_eq_true, if_false, Option.bind_some, bg2]
          · rw [decide_eq_false cw, b2_f] at hhv
            refine ⟨_, ⟨t', q, rfl⟩, fun kk => ?_⟩
            simp only [fn_Route_findClasses_10_bd, sd_gi_1, hC'.1, Option.bind_some, if_neg (nI_ge hi (by omega)), sd_gr_3_0, e4, g2, reduceCtorEq, if_false, bg2, hfs, hhv, if_true, fn_Route_findClasses_95, hb1, cw, and_false, nI_1]) rn 0 gk_fuel (some (z + 14), some (z + 3), some (z + 19), none, 0, me z D (upd t.1 6 0, t.2) u) (by omega) (by unfold gk_fuel; omega) ⟨(upd t.1 6 0, t.2), tq.refl _, rfl⟩
  obtain ⟨t', q, rfl⟩ := h1
  rw [h2]
  have hC' := hC1.tq q
  have q0 : tr t t' := by
    refine ⟨fun k hk => (q.1 k (by omega) (by omega)).trans (pk_un (by omega)), fun k hk => q.2.1 k (by omega) (by omega) (by omega), q.2.2⟩
  have u6 : ∀ k, k ≠ 6 → upd t.1 6 0 k = t.1 k := fun k hk => pk_un hk
  have h11 : t'.1 11 = t.1 11 := (q.1 11 (by decide) (by decide)).trans (u6 11 (by decide))
  have h12' : t'.1 12 = 0 := (q.1 12 (by decide) (by decide)).trans ((u6 12 (by decide)).trans h12)
  have h22 : t'.2.1 22 = t.2.1 22 := q.2.1 22 (by decide) (by decide) (by decide)
  cases hb : bR mn ln n P B rn with
  | none =>
    refine ⟨t', q0, h11, h22, ?_, fun _ => h12', fun b hb => by cases hb⟩
    simp only [fn_Route_findClasses_10_bd, sd_gi_1, hC'.1, Option.bind_some, if_pos (Int32.le_refl _), Option.bind_none, if_true, ev_z0, Option.isSome_none, b2_f]
  | some b =>
    have hbo := hv_ok hb
    obtain ⟨bg1, bg2⟩ := st_root h hbo.2
    rcases bg2 with ⟨-, bg3⟩ | ⟨a2, bg2, bg3, bg4⟩
    · exfalso
      have := hbo.1
      unfold okR at this
      rw [bg3, decide_eq_false (Nat.lt_irrefl 0), Bool.false_and] at this
      cases this
    · have hqc : qc n P (tl B b) 0 = true := by
        have := hbo.1
        unfold okR at this
        simp only [Bool.and_eq_true] at this
        exact this.2.1
      have c5 := hC'.2.2.2.2.1
      obtain ⟨t2, f1, f2, f3, f4, f5⟩ := cs_follow (u := u) (t := t') (ps := []) bg4 (bg1.2.2.2.2 bg3).1 hC'.2.2.2.1 hn (show 0 ≤ n by omega) ((q.1 6 (by decide) (by decide)).trans (show upd t.1 6 0 6 = nI 0 from pk_us)) (by rw [c5]; exact hqc) h12' (fun k hk => absurd hk (by simp)) (by simp)
      rw [c5] at f3 f4 f5
      have hC2 := hC'.tr f1.tr
      have hrw := cs_rootsWith (u := u) h hC2 bg4
      refine ⟨(upd t2.1 7 (mk (S1 rn B b) 0 rn), t2.2), ?_, ?_, ?_, ?_, (fun hx => by cases hx), fun b' hb' => ?_⟩
      · exact (q0.trans f1.tr).trans ⟨fun k hk => pk_un (by omega), fun _ _ => rfl, rfl⟩
      · exact (show upd t2.1 7 (mk (S1 rn B b) 0 rn) 11 = t2.1 11 from pk_un (by decide)).trans ((f1.1 11 (by decide) (by decide) (by decide) (by decide)).trans h11)
      · exact (f1.2.1 22 (by decide) (by decide) (by decide) (by decide) (by decide)).trans h22
      · simp only [fn_Route_findClasses_10_bd, sd_gi_1, hC'.1, Option.bind_some, if_pos (Int32.le_refl _), bg2, reduceCtorEq, if_false, sd_ob_14, f2, sd_ob_3, hrw, sd_pf_7, ev_z1, Option.isSome_some, b2_t]
      · cases hb'
        refine ⟨(show upd t2.1 7 (mk (S1 rn B b) 0 rn) 6 = t2.1 6 from pk_un (by decide)).trans f3, (show upd t2.1 7 (mk (S1 rn B b) 0 rn) 7 = mk (S1 rn B b) 0 rn from pk_us), (show upd t2.1 7 (mk (S1 rn B b) 0 rn) 12 = t2.1 12 from pk_un (by decide)).trans ?_, ?_⟩
        · rw [f4, List.nil_append]
        · rw [List.nil_append] at f5; exact f5
end
