/-! filters that run: the dispatcher's -/
def bnd (B : Nat → Nat → Int32) (mo : Option Nat) (f : Nat) : Bool := decide (B 19 f = 0) || (match mo with
  | none => false
  | some m => decide (B 19 f = B 12 m))
def EF (B : Nat → Nat → Int32) (mo : Option Nat) (K : Nat) (f : Nat) : Bool := decide (B 20 f = nI K) && (decide (K = 0) || bnd B mo f)
def gF (ρ : Nat → Nat) (E : Nat → Bool) (hd : Int32) (B : Nat → Nat → Int32) : Nat → Nat → Int32 → Int32 × List Nat
  | 0, _, v => (v, [])
  | k + 1, i, v => if 100 ≤ v then (v, []) else if E (ρ i) = true then ((gF ρ E hd B k (i + 1) (if B 21 (ρ i) = hd then B 22 (ρ i) else v)).1, ρ i :: (gF ρ E hd B k (i + 1) (if B 21 (ρ i) = hd then B 22 (ρ i) else v)).2) else gF ρ E hd B k (i + 1) v
def gE (ρ : Nat → Nat) (E : Nat → Bool) : Nat → Nat → List Nat
  | 0, _ => []
  | k + 1, i => if E (ρ i) = true then ρ i :: gE ρ E k (i + 1) else gE ρ E k (i + 1)
def FL (z : Nat) (D : gk_M) (n : Nat) (P8 : Nat → Option Nat) (B : Nat → Nat → Int32) : Prop := n ≤ 8 ∧ ∀ f, f < n → ∃ o : Nat, P8 f = some o ∧ z + 61 ≤ o ∧ gk_ob D 6 (some o) = some [.int (B 18 f), .int (B 19 f), .int (B 20 f), .int (B 21 f), .int (B 22 f)]
def FC (n : Nat) (P8 : Nat → Option Nat) (ρ σ : Nat → Nat) (t : sd_S) : Prop := t.1 4 = nI n ∧ t.2.2 8 = P8 ∧ (∀ i, i < n → t.2.1 9 i = nI (ρ i) ∧ ρ i < n) ∧ ∀ i, i < n → t.2.1 10 i = nI (σ i) ∧ σ i < n
def RN (t : sd_S) (L : List Nat) : Prop := t.1 13 = nI L.length ∧ ∀ i, i < L.length → t.2.1 25 i = nI (L.getD i 0)
def tn (t t' : sd_S) : Prop := (∀ k, k ≠ 13 → t'.1 k = t.1 k) ∧ (∀ k, k ≠ 25 → t'.2.1 k = t.2.1 k) ∧ t'.2.2 = t.2.2
theorem tn.refl (t : sd_S) : tn t t := ⟨fun _ _ => rfl, fun _ _ => rfl, rfl⟩
theorem tn.trans {t t' t'' : sd_S} (h : tn t t') (h' : tn t' t'') : tn t t'' := ⟨fun k a => (h'.1 k a).trans (h.1 k a), fun k a => (h'.2.1 k a).trans (h.2.1 k a), h'.2.2.trans h.2.2⟩
theorem FC.tn {n : Nat} {P8 : Nat → Option Nat} {ρ σ : Nat → Nat} {t t' : sd_S} (h : FC n P8 ρ σ t) (q : tn t t') : FC n P8 ρ σ t' := by
  obtain ⟨h1, h2, h3, h4⟩ := h
  refine ⟨(q.1 4 (by decide)).trans h1, by rw [q.2.2]; exact h2, fun i hi => ?_, fun i hi => ?_⟩
  · rw [q.2.1 9 (by decide)]; exact h3 i hi
  · rw [q.2.1 10 (by decide)]; exact h4 i hi
theorem CC.tn {rn mn ln n : Nat} {P : Nat → Int32} {P4 P5 P6 : Nat → Option Nat} {t t' : sd_S} (h : CC rn mn ln n P P4 P5 P6 t) (q : tn t t') : CC rn mn ln n P P4 P5 P6 t' := by
  obtain ⟨h1, h2, h3, h4, h5, h6, h7, h8⟩ := h
  obtain ⟨q1, q2, q3⟩ := q
  exact ⟨(q1 1 (by decide)).trans h1, (q1 2 (by decide)).trans h2, (q1 3 (by decide)).trans h3, (q1 19 (by decide)).trans h4, (q2 21 (by decide)).trans h5, by rw [q3]; exact h6, by rw [q3]; exact h7, by rw [q3]; exact h8⟩
section
variable {z : Nat} {D : gk_M} {rn mn ln n nf : Nat} {P : Nat → Int32} {P4 P5 P6 P8 : Nat → Option Nat} {B : Nat → Nat → Int32} {t : sd_S} {u : mo_S} {ρ σ : Nat → Nat} {mo : Option Nat}
theorem fl_of (h : FL z D nf P8 B) {f : Nat} (hf : f < nf) : ∃ o, P8 f = some o ∧ (∀ t u, gk_gi (me z D t u) 6 1 (some o) = some (B 19 f)) ∧ (∀ t u, gk_gi (me z D t u) 6 2 (some o) = some (B 20 f)) ∧ (∀ t u, gk_gi (me z D t u) 6 3 (some o) = some (B 21 f)) ∧ ∀ t u, gk_gi (me z D t u) 6 4 (some o) = some (B 22 f) := by
  obtain ⟨o, h1, h2, h3⟩ := h.2 f hf
  refine ⟨o, h1, fun t u => ?_, fun t u => ?_, fun t u => ?_, fun t u => ?_⟩
  all_goals (rw [dy_gi h2]; exact ob_gi h3 rfl)
theorem cs_isBound (h : ST z D rn mn ln P4 P5 P6 B) (hC : CC rn mn ln n P P4 P5 P6 t) (h14 : t.1 14 = oI mo) (hmo : ∀ m, mo = some m → m < mn) {o f : Nat} (h19 : gk_gi (me z D t u) 6 1 (some o) = some (B 19 f)) : fn_SD_isBound (some z) (some o) (me z D t u) = some (b2 (bnd B mo f), me z D t u) := by
  have h12 := h.2.1
  have fin : ∀ s : Int32, (decide (B 19 f = 0) || decide (B 19 f = s)) = bnd B mo f → fn_SD_isBound_33 (some o) s (me z D t u) = some (b2 (bnd B mo f), me z D t u) := by
    intro s hs
    rw [← hs]
    simp only [fn_SD_isBound_33, h19, Option.bind_some, fn_SD_isBound_49, ev_z1, ev_z0]
    by_cases c : B 19 f = 0
    · rw [if_pos c, decide_eq_true c, Bool.true_or, b2_t]
    · rw [if_neg c, decide_eq_false c, Bool.false_or]
      by_cases c' : B 19 f = s
      · rw [if_pos c', decide_eq_true c', b2_t]
      · rw [if_neg c', decide_eq_false c', b2_f]
  cases mo with
  | none =>
    have e : t.1 14 = -1 := h14
    simp only [fn_SD_isBound, sd_gr_0_5, sd_gi_14, e, Option.bind_some, if_true]
    exact fin 0 (by unfold bnd; cases decide (B 19 f = 0) <;> rfl)
  | some m =>
    have e : t.1 14 = nI m := h14
    have hm := hmo m rfl
    obtain ⟨o', tr, o1, -, -, -, -, -, -, -, o12, -⟩ := st_met h hm
    have e5 : gk_al (me z D t u) 4 (some (z + 5)) (nI m) = some (some o') := by rw [sd_al_5 (by omega), hC.2.2.2.2.2.2.1, o1]
    simp only [fn_SD_isBound, sd_gr_0_5, sd_gi_14, e, Option.bind_some, if_neg (m1_ne m (by omega)), sd_gr_0_1, sd_gr_3_1, e5, o12]
    exact fin (B 12 m) rfl
theorem cs_addRan {L : List Nat} (hR : RN t L) (hL : L.length < 8) (f : Nat) : ∃ t', tn t t' ∧ fn_Outcome_addRan (some (z + 19)) (nI f) (me z D t u) = some (me z D t' u) ∧ RN t' (L ++ [f]) := by
  refine ⟨(upd t.1 13 (nI (L.length + 1)), up2 t.2.1 25 L.length (nI f), t.2.2), ⟨fun k hk => pk_un hk, fun k hk => up2_ne _ _ _ hk, rfl⟩, ?_, ?_, fun i hi => ?_⟩
  · have h8 : ¬ (8 : Int32) ≤ nI L.length := nI_ge (a := L.length) (b := 8) hL (by omega)
    have hln : gk_ln (me z D t u) 0 (some (z + 25)) = some 8 := ev_ln (me_sd (i := 25) (by decide))
    simp only [fn_Outcome_addRan, sd_gi_13, hR.1, Option.bind_some, sd_gr_19_4, hln, if_neg h8, sd_is_25 hL, nar_int, sd_pf_13, nI_1]
  · show upd t.1 13 (nI (L.length + 1)) 13 = nI (L ++ [f]).length
    rw [pk_us, List.length_append]; rfl
  · rw [List.length_append, List.length_singleton] at hi
    show up2 t.2.1 25 L.length (nI f) 25 i = _
    rw [up2_self]
    by_cases e : i = L.length
    · subst e; rw [pk_us, getD_e]
    · rw [pk_un e, getD_l (by omega)]; exact hR.2 i (by omega)
theorem cs_rf (h : ST z D rn mn ln P4 P5 P6 B) (hF : FL z D nf P8 B) (K : Nat) (hK : K < 3) (hd : Int32) (hmo : ∀ m, mo = some m → m < mn) : ∀ (k i F : Nat) (v : Int32) (t : sd_S) (L : List Nat), i + k = nf → k < F → CC rn mn ln n P P4 P5 P6 t → FC nf P8 ρ σ t → t.1 14 = oI mo → RN t L → L.length + (gF ρ (EF B mo K) hd B k i v).2.length ≤ 8 → ∃ t', tn t t' ∧ gk_loop (α := Option Nat × Int32 × Int32 × Int32 × Int32 × gk_M) (fun kk a => fn_SD_runFilters_6_bd (fun a0 x1 x3 x4 x5 M => kk (a0, x1, x3, x4, x5, M)) a.1 a.2.1 a.2.2.1 a.2.2.2.1 a.2.2.2.2.1 a.2.2.2.2.2) F (some z, nI K, hd, v, nI i, me z D t u) = some ((gF ρ (EF B mo K) hd B k i v).1, me z D t' u) ∧ RN t' (L ++ (gF ρ (EF B mo K) hd B k i v).2) := by
  intro k
  induction k with
  | zero =>
    intro i F v t L hi hF' hC hFC h14 hR hL
    obtain ⟨F, rfl⟩ : ∃ F', F = F' + 1 := ⟨F - 1, by omega⟩
    have : i = nf := by omega
    subst this
    refine ⟨t, tn.refl t, ?_, by simp only [gF, List.append_nil]; exact hR⟩
    rw [gk_loop_s]
    simp only [fn_SD_runFilters_6_bd, sd_gr_0_2, Option.bind_some, sd_gi_4, hFC.1, if_pos (Int32.le_refl _), fn_SD_runFilters_102, gF]
  | succ k ih =>
    intro i F v t L hi hF' hC hFC h14 hR hL
    obtain ⟨F, rfl⟩ : ∃ F', F = F' + 1 := ⟨F - 1, by omega⟩
    have hin : i < nf := by omega
    have hn8 := hF.1
    rw [gk_loop_s]
    by_cases cv100 : 100 ≤ v
    · refine ⟨t, tn.refl t, ?_, by simp only [gF, if_pos cv100, List.append_nil]; exact hR⟩
      simp only [fn_SD_runFilters_6_bd, sd_gr_0_2, Option.bind_some, sd_gi_4, hFC.1, if_neg (nI_ge hin (by omega)), if_pos cv100, fn_SD_runFilters_102, gF]
    · obtain ⟨r1, r2⟩ := hFC.2.2.1 i hin
      obtain ⟨o, o1, o19, o20, o21, o22⟩ := fl_of hF r2
      have e9 : gk_il (me z D t u) 0 (some (z + 9)) (nI i) = some (nI (ρ i)) := by rw [sd_il_9 (by omega), r1]
      have e8 : gk_al (me z D t u) 6 (some (z + 8)) (nI (ρ i)) = some (some o) := by rw [sd_al_8 (by omega), hFC.2.1, o1]
      have hb := cs_isBound (u := u) h hC h14 hmo (o19 t u)
      -- one that doesn't run
      have skip : EF B mo K (ρ i) = false → ∃ t', tn t t' ∧ fn_SD_runFilters_96 (fun a0 x1 x3 x4 x5 M => gk_loop (α := Option Nat × Int32 × Int32 × Int32 × Int32 × gk_M) (fun kk a => fn_SD_runFilters_6_bd (fun a0 x1 x3 x4 x5 M => kk (a0, x1, x3, x4, x5, M)) a.1 a.2.1 a.2.2.1 a.2.2.2.1 a.2.2.2.2.1 a.2.2.2.2.2) F (a0, x1, x3, x4, x5, M)) (some z) (nI K) hd v (nI i) (me z D t u) = some ((gF ρ (EF B mo K) hd B (k + 1) i v).1, me z D t' u) ∧ RN t' (L ++ (gF ρ (EF B mo K) hd B (k + 1) i v).2) := fun hE => by
        have eg : gF ρ (EF B mo K) hd B (k + 1) i v = gF ρ (EF B mo K) hd B k (i + 1) v := by simp only [gF, if_neg cv100, hE, Bool.false_eq_true, if_false]
        rw [eg] at hL ⊢
        obtain ⟨t', g1, g2, g3⟩ := ih (i + 1) F v t L (by omega) (by omega) hC hFC h14 hR hL
        refine ⟨t', g1, ?_, g3⟩
        rw [← g2]
        simp only [fn_SD_runFilters_96, nI_1]
      have run : EF B mo K (ρ i) = true → ∃ t', tn t t' ∧ fn_SD_runFilters_71 (fun a0 x1 x3 x4 x5 M => gk_loop (α := Option Nat × Int32 × Int32 × Int32 × Int32 × gk_M) (fun kk a => fn_SD_runFilters_6_bd (fun a0 x1 x3 x4 x5 M => kk (a0, x1, x3, x4, x5, M)) a.1 a.2.1 a.2.2.1 a.2.2.2.1 a.2.2.2.2.1 a.2.2.2.2.2) F (a0, x1, x3, x4, x5, M)) (some z) (nI K) hd v (nI i) (nI (ρ i)) (some o) (me z D t u) = some ((gF ρ (EF B mo K) hd B (k + 1) i v).1, me z D t' u) ∧ RN t' (L ++ (gF ρ (EF B mo K) hd B (k + 1) i v).2) := fun hE => by
        have eg : gF ρ (EF B mo K) hd B (k + 1) i v = ((gF ρ (EF B mo K) hd B k (i + 1) (if B 21 (ρ i) = hd then B 22 (ρ i) else v)).1, ρ i :: (gF ρ (EF B mo K) hd B k (i + 1) (if B 21 (ρ i) = hd then B 22 (ρ i) else v)).2) := by simp only [gF, if_neg cv100, hE, if_true]
        rw [eg] at hL ⊢
        simp only [List.length_cons] at hL
        obtain ⟨t1, a1, a2, a3⟩ := cs_addRan (z := z) (D := D) (u := u) hR (by omega) (ρ i)
        obtain ⟨t', g1, g2, g3⟩ := ih (i + 1) F (if B 21 (ρ i) = hd then B 22 (ρ i) else v) t1 (L ++ [ρ i]) (by omega) (by omega) (hC.tn a1) (hFC.tn a1) ((a1.1 14 (by decide)).trans h14) a3 (by rw [List.length_append, List.length_singleton]; omega)
        refine ⟨t', a1.trans g1, ?_, by rw [List.append_assoc] at g3; exact g3⟩
        show _ = some ((gF ρ (EF B mo K) hd B k (i + 1) (if B 21 (ρ i) = hd then B 22 (ρ i) else v)).1, me z D t' u)
        rw [← g2]
        simp only [fn_SD_runFilters_71, sd_gr_0_5, Option.bind_some, sd_ob_19, a2, o21, o22, fn_SD_runFilters_96, nI_1]
        by_cases c : B 21 (ρ i) = hd
        · rw [if_pos c, if_pos c]
        · rw [if_neg c, if_neg c]
      show ∃ t', tn t t' ∧ fn_SD_runFilters_6_bd _ (some z) (nI K) hd v (nI i) (me z D t u) = _ ∧ _
      unfold fn_SD_runFilters_6_bd
      simp only [sd_gr_0_2, Option.bind_some, sd_gi_4, hFC.1, if_neg (nI_ge hin (by omega)), if_neg cv100, sd_gr_7_1, e9, sd_gr_7_0, e8, o20, sd_ob_0, hb, b2_0]
      by_cases cK : B 20 (ρ i) = nI K
      · rw [if_pos cK]
        by_cases c0 : K = 0
        · have hE : EF B mo K (ρ i) = true := by unfold EF; rw [decide_eq_true cK, decide_eq_true c0]; rfl
          rw [if_pos (by rw [c0]; exact nI_0)]
          exact run hE
        · have hE : EF B mo K (ρ i) = bnd B mo (ρ i) := by unfold EF; rw [decide_eq_true cK, decide_eq_false c0]; rfl
          rw [if_neg (nI_ne0 (by omega) (by omega))]
          rcases bool_or (bnd B mo (ρ i)) with hbb | hbb
          · rw [if_pos hbb]
            exact skip (hE.trans hbb)
          · rw [if_neg (by rw [hbb]; decide)]
            exact run (hE.trans hbb)
      · rw [if_neg cK]
        exact skip (by unfold EF; rw [decide_eq_false cK]; rfl)
theorem cs_re (h : ST z D rn mn ln P4 P5 P6 B) (hF : FL z D nf P8 B) (hmo : ∀ m, mo = some m → m < mn) : ∀ (k i F : Nat) (t : sd_S) (L : List Nat), i + k = nf → k < F → CC rn mn ln n P P4 P5 P6 t → FC nf P8 ρ σ t → t.1 14 = oI mo → RN t L → L.length + (gE σ (EF B mo 2) k i).length ≤ 8 → ∃ t', tn t t' ∧ gk_loop (α := Option Nat × Int32 × gk_M) (fun kk a => fn_SD_runFiltersAtTheEnd_2_bd (fun a0 x1 M => kk (a0, x1, M)) a.1 a.2.1 a.2.2) F (some z, nI i, me z D t u) = some (me z D t' u) ∧ RN t' (L ++ gE σ (EF B mo 2) k i) := by
  intro k
  induction k with
  | zero =>
    intro i F t L hi hF' hC hFC h14 hR hL
    obtain ⟨F, rfl⟩ : ∃ F', F = F' + 1 := ⟨F - 1, by omega⟩
    have : i = nf := by omega
    subst this
    refine ⟨t, tn.refl t, ?_, by simp only [gE, List.append_nil]; exact hR⟩
    rw [gk_loop_s]
    simp only [fn_SD_runFiltersAtTheEnd_2_bd, sd_gr_0_2, Option.bind_some, sd_gi_4, hFC.1, if_pos (Int32.le_refl _)]
  | succ k ih =>
    intro i F t L hi hF' hC hFC h14 hR hL
    obtain ⟨F, rfl⟩ : ∃ F', F = F' + 1 := ⟨F - 1, by omega⟩
    have hin : i < nf := by omega
    have hn8 := hF.1
    rw [gk_loop_s]
    obtain ⟨r1, r2⟩ := hFC.2.2.2 i hin
    obtain ⟨o, o1, o19, o20, o21, o22⟩ := fl_of hF r2
    have e9 : gk_il (me z D t u) 0 (some (z + 10)) (nI i) = some (nI (σ i)) := by rw [sd_il_10 (by omega), r1]
    have e8 : gk_al (me z D t u) 6 (some (z + 8)) (nI (σ i)) = some (some o) := by rw [sd_al_8 (by omega), hFC.2.1, o1]
    have hb := cs_isBound (u := u) h hC h14 hmo (o19 t u)
    have hE : EF B mo 2 (σ i) = (decide (B 20 (σ i) = 2) && bnd B mo (σ i)) := by unfold EF; rfl
    have skip : EF B mo 2 (σ i) = false → ∃ t', tn t t' ∧ gk_loop (α := Option Nat × Int32 × gk_M) (fun kk a => fn_SD_runFiltersAtTheEnd_2_bd (fun a0 x1 M => kk (a0, x1, M)) a.1 a.2.1 a.2.2) F (some z, nI (i + 1), me z D t u) = some (me z D t' u) ∧ RN t' (L ++ gE σ (EF B mo 2) (k + 1) i) := fun hE => by
      have eg : gE σ (EF B mo 2) (k + 1) i = gE σ (EF B mo 2) k (i + 1) := by simp only [gE, hE, Bool.false_eq_true, if_false]
      rw [eg] at hL ⊢
      exact ih (i + 1) F t L (by omega) (by omega) hC hFC h14 hR hL
    show ∃ t', tn t t' ∧ fn_SD_runFiltersAtTheEnd_2_bd _ (some z) (nI i) (me z D t u) = _ ∧ _
    unfold fn_SD_runFiltersAtTheEnd_2_bd
    simp only [sd_gr_0_2, Option.bind_some, sd_gi_4, hFC.1, if_neg (nI_ge hin (by omega)), sd_gr_7_2, e9, sd_gr_7_0, e8, o20, sd_ob_0, hb, b2_0, sd_gr_0_5, sd_ob_19, fn_SD_runFiltersAtTheEnd_57, nI_1]
    by_cases cK : B 20 (σ i) = 2
    · rw [if_pos cK]
      rw [decide_eq_true cK, Bool.true_and] at hE
      rcases bool_or (bnd B mo (σ i)) with hbb | hbb
      · rw [if_pos hbb]
        exact skip (hE.trans hbb)
      · rw [if_neg (by rw [hbb]; decide)]
        have eg : gE σ (EF B mo 2) (k + 1) i = σ i :: gE σ (EF B mo 2) k (i + 1) := by simp only [gE, hE.trans hbb, if_true]
        rw [eg] at hL ⊢
        simp only [List.length_cons] at hL
        obtain ⟨t1, a1, a2, a3⟩ := cs_addRan (z := z) (D := D) (u := u) hR (by omega) (σ i)
        obtain ⟨t', g1, g2, g3⟩ := ih (i + 1) F t1 (L ++ [σ i]) (by omega) (by omega) (hC.tn a1) (hFC.tn a1) ((a1.1 14 (by decide)).trans h14) a3 (by rw [List.length_append, List.length_singleton]; omega)
        refine ⟨t', a1.trans g1, ?_, by rw [List.append_assoc] at g3; exact g3⟩
        rw [a2, Option.bind_some]
        exact g2
    · rw [if_neg cK]
      exact skip (by rw [hE, decide_eq_false cK]; rfl)
end
