def ST (z : Nat) (D : gk_M) (rn mn ln : Nat) (P4 P5 P6 : Nat → Option Nat) (B : Nat → Nat → Int32) : Prop := rn ≤ 6 ∧ mn ≤ 12 ∧ ln ≤ 8 ∧ (∀ r, r < rn → tmp z D (P4 r) (B 3 r) (fun i => B 2 (24 * r + i))) ∧ (∀ m, m < mn → ∃ (o : Nat) (tr : Option Nat), P5 m = some o ∧ z + 61 ≤ o ∧ gk_ob D 4 (some o) = some [.int (B 6 m), va_rf tr, .int (B 7 m), .int (B 8 m), .int (B 9 m), .int (B 10 m), .int (B 11 m), .int (B 12 m), .int (B 13 m)] ∧ tmp z D tr (B 3 (6 + m)) (fun i => B 2 (24 * (6 + m) + i)) ∧ mrg rn B m) ∧ ∀ l, l < ln → ∃ (o : Nat) (tr : Option Nat), P6 l = some o ∧ z + 61 ≤ o ∧ gk_ob D 5 (some o) = some [.int (B 15 l), va_rf tr, .int (B 16 l)] ∧ ¬ tr = none ∧ tmp z D tr (B 3 (18 + l)) (fun i => B 2 (24 * (18 + l) + i)) ∧ (∃ j, j < rn ∧ B 15 l = nI j) ∧ ∃ j, j < rn ∧ B 16 l = nI j
def CC (rn mn ln n : Nat) (P : Nat → Int32) (P4 P5 P6 : Nat → Option Nat) (t : sd_S) : Prop := t.1 1 = nI rn ∧ t.1 2 = nI mn ∧ t.1 3 = nI ln ∧ t.1 19 = nI n ∧ t.2.1 21 = P ∧ t.2.2 4 = P4 ∧ t.2.2 5 = P5 ∧ t.2.2 6 = P6
theorem CC.tq {rn mn ln n : Nat} {P : Nat → Int32} {P4 P5 P6 : Nat → Option Nat} {t t' : sd_S} (h : CC rn mn ln n P P4 P5 P6 t) (q : tq t t') : CC rn mn ln n P P4 P5 P6 t' := by
  obtain ⟨h1, h2, h3, h4, h5, h6, h7, h8⟩ := h
  obtain ⟨q1, q2, q3⟩ := q
  exact ⟨(q1 1 (by decide) (by decide)).trans h1, (q1 2 (by decide) (by decide)).trans h2, (q1 3 (by decide) (by decide)).trans h3, (q1 19 (by decide) (by decide)).trans h4, (q2 21 (by decide) (by decide) (by decide)).trans h5, by rw [q3]; exact h6, by rw [q3]; exact h7, by rw [q3]; exact h8⟩
def MM (rn mn ln n : Nat) (P : Nat → Int32) (B : Nat → Nat → Int32) (u : mo_S) : Prop := u.1 4 = nI rn ∧ u.1 5 = nI mn ∧ u.1 14 = nI ln ∧ u.1 29 = nI n ∧ (∀ i, i < n → u.2.2 28 i = P i) ∧ ∀ k, k < 17 → u.2.2 k = B k
theorem MM.uq {rn mn ln n : Nat} {P : Nat → Int32} {B : Nat → Nat → Int32} {u u' : mo_S} (h : MM rn mn ln n P B u) (q : uq u u') : MM rn mn ln n P B u' := by
  obtain ⟨h1, h2, h3, h4, h5, h6⟩ := h
  obtain ⟨q1, -, q3⟩ := q
  refine ⟨(q1 4 (by decide) (by decide)).trans h1, (q1 5 (by decide) (by decide)).trans h2, (q1 14 (by decide) (by decide)).trans h3, (q1 29 (by decide) (by decide)).trans h4, fun i hi => ?_, fun k hk => (q3 k (by omega) (by omega) (by omega) (by omega)).trans (h6 k hk)⟩
  rw [q3 28 (by decide) (by decide) (by decide) (by decide)]
  exact h5 i hi
theorem tm_congr {B B' : Nat → Nat → Int32} (h : ∀ k, k < 17 → B' k = B k) (T : Nat) : tm B' T = tm B T ∧ tx B' T = tx B T ∧ tl B' T = tl B T := by
  have h1 : tm B' T = tm B T := by unfold tm; rw [h 3 (by decide)]
  have h2 : tx B' T = tx B T := by unfold tx; rw [h 2 (by decide)]
  exact ⟨h1, h2, by unfold tl; rw [h1, h2]⟩
theorem tgd_congr {B B' : Nat → Nat → Int32} (h : ∀ k, k < 17 → B' k = B k) {T : Nat} (hT : tgd B T) : tgd B' T := by
  obtain ⟨e1, e2, e3⟩ := tm_congr h T
  unfold tgd
  rw [e1, e2, e3, h 3 (by decide)]
  exact hT
theorem tpl_ob {z : Nat} {D : gk_M} {a : Nat} {l : List Int32} (h : tpl z D a l) : ∃ fs, ∀ t u, gk_ob (me z D t u) 2 (some a) = some fs := by
  obtain ⟨h1, p, L, g, -, h3, -⟩ := h
  exact ⟨_, fun t u => by rw [dy_ob h1]; exact h3⟩
section
variable {z : Nat} {D : gk_M} {rn mn ln n : Nat} {P : Nat → Int32} {P4 P5 P6 : Nat → Option Nat} {B : Nat → Nat → Int32}
theorem st_root (h : ST z D rn mn ln P4 P5 P6 B) {r : Nat} (hr : r < rn) : tgd B r ∧ ((P4 r = none ∧ tm B r = 0) ∨ ∃ a, P4 r = some a ∧ 0 < tm B r ∧ tpl z D a (tl B r)) := tmp_use (h.2.2.2.1 r hr)
theorem ob_gr {D : gk_M} {ci o k : Nat} {fs : List Value} {r : Option Nat} (h : gk_ob D ci (some o) = some fs) (hk : fs[k]? = some (va_rf r)) : gk_gr D ci k (some o) = some r := by
  simp only [gk_gr, h, hk, Option.bind_some]
  cases r <;> rfl
theorem st_met (h : ST z D rn mn ln P4 P5 P6 B) {m : Nat} (hm : m < mn) : ∃ (o : Nat) (tr : Option Nat), P5 m = some o ∧ (∀ t u, gk_gi (me z D t u) 4 0 (some o) = some (B 6 m)) ∧ (∀ t u, gk_gr (me z D t u) 4 1 (some o) = some tr) ∧ (∀ t u, gk_gi (me z D t u) 4 2 (some o) = some (B 7 m)) ∧ (∀ t u, gk_gi (me z D t u) 4 3 (some o) = some (B 8 m)) ∧ (∀ t u, gk_gi (me z D t u) 4 4 (some o) = some (B 9 m)) ∧ (∀ t u, gk_gi (me z D t u) 4 5 (some o) = some (B 10 m)) ∧ (∀ t u, gk_gi (me z D t u) 4 6 (some o) = some (B 11 m)) ∧ (∀ t u, gk_gi (me z D t u) 4 7 (some o) = some (B 12 m)) ∧ (∀ t u, gk_gi (me z D t u) 4 8 (some o) = some (B 13 m)) ∧ tgd B (6 + m) ∧ ((tr = none ∧ tm B (6 + m) = 0) ∨ ∃ a, tr = some a ∧ 0 < tm B (6 + m) ∧ tpl z D a (tl B (6 + m))) ∧ mrg rn B m := by
  obtain ⟨o, tr, h1, h2, h3, h4, h5⟩ := h.2.2.2.2.1 m hm
  obtain ⟨g1, g2⟩ := tmp_use h4
  refine ⟨o, tr, h1, fun t u => ?_, fun t u => ?_, fun t u => ?_, fun t u => ?_, fun t u => ?_, fun t u => ?_, fun t u => ?_, fun t u => ?_, fun t u => ?_, g1, g2, h5⟩
  · rw [dy_gi h2]; exact ob_gi h3 rfl
  · rw [dy_gr h2]; exact ob_gr h3 rfl
  all_goals (rw [dy_gi h2]; exact ob_gi h3 rfl)
theorem st_loc (h : ST z D rn mn ln P4 P5 P6 B) {l : Nat} (hl : l < ln) : ∃ (o a : Nat), P6 l = some o ∧ (∀ t u, gk_gi (me z D t u) 5 0 (some o) = some (B 15 l)) ∧ (∀ t u, gk_gr (me z D t u) 5 1 (some o) = some (some a)) ∧ (∀ t u, gk_gi (me z D t u) 5 2 (some o) = some (B 16 l)) ∧ tgd B (18 + l) ∧ 0 < tm B (18 + l) ∧ tpl z D a (tl B (18 + l)) ∧ (∃ j, j < rn ∧ B 15 l = nI j) ∧ ∃ j, j < rn ∧ B 16 l = nI j := by
  obtain ⟨o, tr, h1, h2, h3, h4, h5, h6⟩ := h.2.2.2.2.2 l hl
  obtain ⟨g1, g2⟩ := tmp_use h5
  rcases g2 with ⟨g2, -⟩ | ⟨a, rfl, g3, g4⟩
  · exact absurd g2 h4
  · refine ⟨o, a, h1, fun t u => ?_, fun t u => ?_, fun t u => ?_, g1, g3, g4, h6⟩
    · rw [dy_gi h2]; exact ob_gi h3 rfl
    · rw [dy_gr h2]; exact ob_gr h3 rfl
    · rw [dy_gi h2]; exact ob_gi h3 rfl
end
/-! whether any of the first k -/
def anyb (q : Nat → Bool) : Nat → Bool
  | 0 => false
  | k + 1 => anyb q k || q k
theorem anyb_t {q : Nat → Bool} : ∀ {k : Nat}, anyb q k = true ↔ ∃ i, i < k ∧ q i = true
  | 0 => by simp [anyb]
  | k + 1 => by
    simp only [anyb, Bool.or_eq_true, anyb_t (k := k)]
    constructor
    · rintro (⟨i, h1, h2⟩ | h)
      · exact ⟨i, by omega, h2⟩
      · exact ⟨k, by omega, h⟩
    · rintro ⟨i, h1, h2⟩
      by_cases e : i = k
      · subst e; exact Or.inr h2
      · exact Or.inl ⟨i, by omega, h2⟩
theorem anyb_f {q : Nat → Bool} {k : Nat} : anyb q k = false ↔ ∀ i, i < k → q i = false := by
  constructor
  · intro h i hi
    cases hq : q i with
    | false => rfl
    | true => rw [anyb_t.mpr ⟨i, hi, hq⟩] at h; cases h
  · intro h
    cases ha : anyb q k with
    | false => rfl
    | true =>
      obtain ⟨i, h1, h2⟩ := anyb_t.mp ha
      rw [h i h1] at h2; cases h2
def dpM (B : Nat → Nat → Int32) (r m : Nat) : Bool := decide (B 6 m = nI r) && decide (0 < tm B (6 + m))
def dpL (B : Nat → Nat → Int32) (r l : Nat) : Bool := decide (B 15 l = nI r)
def dp (mn ln : Nat) (B : Nat → Nat → Int32) (r : Nat) : Bool := anyb (dpM B r) mn || anyb (dpL B r) ln
theorem cs_leads {z : Nat} {D : gk_M} {rn mn ln n : Nat} {P : Nat → Int32} {P4 P5 P6 : Nat → Option Nat} {B : Nat → Nat → Int32} (h : ST z D rn mn ln P4 P5 P6 B) {t : sd_S} {u : mo_S} (hC : CC rn mn ln n P P4 P5 P6 t) (r : Nat) : fn_Catalog_leadsDeeper (some (z + 3)) (nI r) (me z D t u) = some (b2 (dp mn ln B r), me z D t u) := by
  obtain ⟨c1, c2, c3, c4, c5, c6, c7, c8⟩ := hC
  have hm12 := h.2.1
  have hl8 := h.2.2.1
  unfold fn_Catalog_leadsDeeper fn_Catalog_leadsDeeper_2
  rcases lp_or (body := fun (kk : Option Nat × Int32 × Int32 × gk_M → Option (Int32 × gk_M)) a => fn_Catalog_leadsDeeper_2_bd (fun a0 x1 x2 M => kk (a0, x1, x2, M)) a.1 a.2.1 a.2.2.1 a.2.2.2) (fun i st => st = (some (z + 3), nI r, nI i, me z D t u) ∧ ∀ j, j < i → dpM B r j = false) (fun y => y = some (b2 (dp mn ln B r), me z D t u)) mn (fun i st hi hst => by
    obtain ⟨rfl, hj⟩ := hst
    obtain ⟨o, tr, o1, o2, o3, -, -, -, -, -, -, -, -, o4, -⟩ := st_met h hi
    have e5 : gk_al (me z D t u) 4 (some (z + 5)) (nI i) = some (some o) := by rw [sd_al_5 (by omega), c7, o1]
    by_cases ca : B 6 i = nI r
    · by_cases cb : tr = none
      · left
        refine ⟨_, ⟨rfl, fun j hj' => ?_⟩, fun kk => ?_⟩
        · by_cases e : j = i
          · subst e
            rcases o4 with ⟨-, o5⟩ | ⟨a, o5, -⟩
            · unfold dpM; rw [o5, decide_eq_false (Nat.lt_irrefl 0), Bool.and_false]
            · rw [cb] at o5; cases o5
          · exact hj j (by omega)
        · simp only [fn_Catalog_leadsDeeper_2_bd, sd_gi_2, c2, Option.bind_some, if_neg (nI_ge hi (by omega)), sd_gr_3_1, e5, o2, if_pos ca, o3, if_pos cb, fn_Catalog_leadsDeeper_37, nI_1]
      · right
        refine ⟨some (1, me z D t u), ?_, fun kk => ?_⟩
        · rcases o4 with ⟨o5, -⟩ | ⟨a, -, o5, -⟩
          · exact absurd o5 cb
          · have : anyb (dpM B r) mn = true := anyb_t.mpr ⟨i, hi, by unfold dpM; rw [decide_eq_true ca, decide_eq_true o5]; rfl⟩
            unfold dp; rw [this, Bool.true_or]; rfl
        · simp only [fn_Catalog_leadsDeeper_2_bd, sd_gi_2, c2, Option.bind_some, if_neg (nI_ge hi (by omega)), sd_gr_3_1, e5, o2, if_pos ca, o3, if_neg cb, ev_z1]
    · left
      refine ⟨_, ⟨rfl, fun j hj' => ?_⟩, fun kk => ?_⟩
      · by_cases e : j = i
        · subst e
          unfold dpM; rw [decide_eq_false ca, Bool.false_and]
        · exact hj j (by omega)
      · simp only [fn_Catalog_leadsDeeper_2_bd, sd_gi_2, c2, Option.bind_some, if_neg (nI_ge hi (by omega)), sd_gr_3_1, e5, o2, if_neg ca, fn_Catalog_leadsDeeper_37, nI_1]) mn 0 gk_fuel (some (z + 3), nI r, 0, me z D t u) (by omega) (by unfold gk_fuel; omega) ⟨rfl, fun j hj => absurd hj (by omega)⟩ with hR | ⟨a', w, ⟨rfl, hM⟩, h2⟩
  · exact hR
  · rw [h2]
    simp only [fn_Catalog_leadsDeeper_2_bd, sd_gi_2, c2, Option.bind_some, if_pos (Int32.le_refl _), fn_Catalog_leadsDeeper_45]
    have hM' : anyb (dpM B r) mn = false := anyb_f.mpr hM
    rcases lp_or (body := fun (kk : Option Nat × Int32 × Int32 × gk_M → Option (Int32 × gk_M)) a => fn_Catalog_leadsDeeper_45_bd (fun a0 x1 x2 M => kk (a0, x1, x2, M)) a.1 a.2.1 a.2.2.1 a.2.2.2) (fun i st => st = (some (z + 3), nI r, nI i, me z D t u) ∧ ∀ j, j < i → dpL B r j = false) (fun y => y = some (b2 (dp mn ln B r), me z D t u)) ln (fun i st hi hst => by
      obtain ⟨rfl, hj⟩ := hst
      obtain ⟨o, tr, o1, o2, o3, -⟩ := st_loc h hi
      have e6 : gk_al (me z D t u) 5 (some (z + 6)) (nI i) = some (some o) := by rw [sd_al_6 (by omega), c8, o1]
      by_cases ca : B 15 i = nI r
      · right
        refine ⟨some (1, me z D t u), ?_, fun kk => ?_⟩
        · have : anyb (dpL B r) ln = true := anyb_t.mpr ⟨i, hi, by unfold dpL; rw [decide_eq_true ca]⟩
          unfold dp; rw [this, Bool.or_true]; rfl
        · simp only [fn_Catalog_leadsDeeper_45_bd, sd_gi_3, c3, Option.bind_some, if_neg (nI_ge hi (by omega)), sd_gr_3_2, e6, o2, if_pos ca, ev_z1]
      · left
        refine ⟨_, ⟨rfl, fun j hj' => ?_⟩, fun kk => ?_⟩
        · by_cases e : j = i
          · subst e
            unfold dpL; rw [decide_eq_false ca]
          · exact hj j (by omega)
        · simp only [fn_Catalog_leadsDeeper_45_bd, sd_gi_3, c3, Option.bind_some, if_neg (nI_ge hi (by omega)), sd_gr_3_2, e6, o2, if_neg ca, nI_1]) ln 0 gk_fuel (some (z + 3), nI r, 0, me z D t u) (by omega) (by unfold gk_fuel; omega) ⟨rfl, fun j hj => absurd hj (by omega)⟩ with hR | ⟨a', w, ⟨rfl, hL⟩, h2⟩
    · exact hR
    · rw [h2]
      have hL' : anyb (dpL B r) ln = false := anyb_f.mpr hL
      simp only [fn_Catalog_leadsDeeper_45_bd, sd_gi_3, c3, Option.bind_some, if_pos (Int32.le_refl _), ev_z0]
      unfold dp; rw [hM', hL']; rfl
theorem ms_has {z : Nat} {D : gk_M} {rn mn ln n : Nat} {P : Nat → Int32} {B : Nat → Nat → Int32} {t : sd_S} {u : mo_S} (hM : MM rn mn ln n P B u) (hm12 : mn ≤ 12) (hl8 : ln ≤ 8) (hg : ∀ m, m < mn → tgd B (6 + m)) (r : Nat) : fn_Mo_hasTemplates (some (z + 27)) (nI r) (me z D t u) = some (b2 (dp mn ln B r), me z D t u) := by
  obtain ⟨c1, c2, c3, c4, c5, c6⟩ := hM
  unfold fn_Mo_hasTemplates fn_Mo_hasTemplates_4
  obtain ⟨a', w, h1, h2⟩ := lp_to (body := fun (kk : Option Nat × Int32 × Int32 × Int32 × gk_M → Option (Int32 × gk_M)) a => fn_Mo_hasTemplates_4_bd (fun a0 x1 x2 x3 M => kk (a0, x1, x2, x3, M)) a.1 a.2.1 a.2.2.1 a.2.2.2.1 a.2.2.2.2) (fun i st => st = (some (z + 27), nI r, b2 (anyb (dpM B r) i), nI i, me z D t u)) mn (fun i st hi hst => by
    subst hst
    refine ⟨_, rfl, fun kk => ?_⟩
    have e6 : gk_il (me z D t u) 0 (some (z + 31)) (nI i) = some (B 6 i) := by rw [mo_il_6 (by omega), c6 6 (by decide)]
    have k6 : (6 : Int32) + nI i = nI (6 + i) := nI_add 6 i
    have e3 : gk_il (me z D t u) 0 (some (z + 30)) (nI (6 + i)) = some (nI (tm B (6 + i))) := by rw [mo_il_3 (by omega), c6 3 (by decide), (hg i hi).1]
    have htm := (hg i hi).2.1
    simp only [fn_Mo_hasTemplates_4_bd, mo_gi_5, c2, Option.bind_some, if_neg (nI_ge hi (by omega)), b2_0, mo_gr_6, e6, mo_gr_3, k6, e3, fn_Mo_hasTemplates_42, fn_Mo_hasTemplates_38, fn_Mo_hasTemplates_43, anyb, nI_1]
    cases anyb (dpM B r) i with
    | true => simp only [Bool.true_eq_false, if_false, Bool.true_or, b2_t]
    | false =>
      simp only [if_true, Bool.false_or]
      unfold dpM
      by_cases ca : B 6 i = nI r
      · rw [if_pos ca, decide_eq_true ca, Bool.true_and]
        by_cases cb : 0 < tm B (6 + i)
        · rw [if_neg (nI_nle cb (by omega)), decide_eq_true cb]; rfl
        · have : tm B (6 + i) = 0 := by omega
          rw [this, if_pos (by decide)]; rfl
      · rw [if_neg ca, decide_eq_false ca]; rfl) mn 0 gk_fuel (some (z + 27), nI r, 0, 0, me z D t u) (by omega) (by unfold gk_fuel; omega) rfl
  subst h1
  rw [h2]
  simp only [fn_Mo_hasTemplates_4_bd, mo_gi_5, c2, Option.bind_some, if_pos (Int32.le_refl _), fn_Mo_hasTemplates_52]
  obtain ⟨a', w, h1, h2⟩ := lp_to (body := fun (kk : Option Nat × Int32 × Int32 × Int32 × gk_M → Option (Int32 × gk_M)) a => fn_Mo_hasTemplates_52_bd (fun a0 x1 x2 x3 M => kk (a0, x1, x2, x3, M)) a.1 a.2.1 a.2.2.1 a.2.2.2.1 a.2.2.2.2) (fun i st => st = (some (z + 27), nI r, b2 (anyb (dpM B r) mn || anyb (dpL B r) i), nI i, me z D t u)) ln (fun i st hi hst => by
    subst hst
    refine ⟨_, rfl, fun kk => ?_⟩
    have e15 : gk_il (me z D t u) 0 (some (z + 39)) (nI i) = some (B 15 i) := by rw [mo_il_15 (by omega), c6 15 (by decide)]
    simp only [fn_Mo_hasTemplates_52_bd, mo_gi_14, c3, Option.bind_some, if_neg (nI_ge hi (by omega)), b2_0, mo_gr_15, e15, fn_Mo_hasTemplates_74, fn_Mo_hasTemplates_79, anyb, nI_1]
    rw [← Bool.or_assoc]
    cases anyb (dpM B r) mn || anyb (dpL B r) i with
    | true => simp only [Bool.true_eq_false, if_false, Bool.true_or, b2_t]
    | false =>
      simp only [if_true, Bool.false_or]
      unfold dpL
      by_cases ca : B 15 i = nI r
      · rw [if_pos ca, decide_eq_true ca]; rfl
      · rw [if_neg ca, decide_eq_false ca]; rfl) ln 0 gk_fuel (some (z + 27), nI r, b2 (anyb (dpM B r) mn), 0, me z D t u) (by omega) (by unfold gk_fuel; omega) (by simp only [anyb, Bool.or_false]; rfl)
  subst h1
  rw [h2]
  simp only [fn_Mo_hasTemplates_52_bd, mo_gi_14, c3, Option.bind_some, if_pos (Int32.le_refl _), b2_z, dp]
