def ow (B : Nat → Nat → Int32) (m : Nat) : Nat := (B 6 m).toNatClampNeg
def owl (B : Nat → Nat → Int32) (l : Nat) : Nat := (B 15 l).toNatClampNeg
def br0 (B : Nat → Nat → Int32) (S : Nat → Bool) (m : Nat) : Bool := S (ow B m) && decide (tm B (6 + m) = 0)
def br (n : Nat) (P : Nat → Int32) (B : Nat → Nat → Int32) (S : Nat → Bool) (s m : Nat) : Bool := br0 B S m && en n P s
def okM (n : Nat) (P : Nat → Int32) (B : Nat → Nat → Int32) (S : Nat → Bool) (s m : Nat) : Bool := (decide (0 < tm B (6 + m)) && S (ow B m)) && (qc n P (tl B (6 + m)) s && en n P (qw n P (tl B (6 + m)) s).2)
def okL (n : Nat) (P : Nat → Int32) (B : Nat → Nat → Int32) (S : Nat → Bool) (s l : Nat) : Bool := S (owl B l) && qc n P (tl B (18 + l)) s
def bM (n : Nat) (P : Nat → Int32) (B : Nat → Nat → Int32) (S : Nat → Bool) (s k : Nat) : Option Nat := hv (okM n P B S s) (fun m => Wt (tl B (6 + m))) k
def bL (n : Nat) (P : Nat → Int32) (B : Nat → Nat → Int32) (S : Nat → Bool) (s k : Nat) : Option Nat := hv (okL n P B S s) (fun l => Wt (tl B (18 + l))) k
def mS (B : Nat → Nat → Int32) (S : Nat → Bool) (b m : Nat) : Bool := S (ow B m) && (decide (0 < tm B (6 + m)) && decide (tl B (6 + m) = tl B (6 + b)))
def useL (B : Nat → Nat → Int32) (bm bl : Option Nat) : Option Nat := match bl with
  | none => none
  | some l => match bm with
    | none => some l
    | some m => if Wt (tl B (6 + m)) < Wt (tl B (18 + l)) then some l else none
theorem or_z (x : Int32) : x ||| 0 = x := by
  rw [← Int32.toBitVec_inj, Int32.toBitVec_or]
  exact BitVec.or_zero
theorem bool_or (b : Bool) : b = false ∨ b = true := by cases b <;> simp
theorem mk_0 {S : Nat → Bool} {s : Nat} : ∀ {k : Nat}, (∀ i, i < k → S (s + i) = false) → mk S s k = 0
  | 0, _ => rfl
  | k + 1, h => by
    rw [show mk S s (k + 1) = mk S s k ||| _ from rfl, mk_0 (k := k) (fun i hi => h i (by omega)), h k (by omega), if_neg (by decide), or_z]
theorem mk_eq0 {S : Nat → Bool} {k : Nat} (hk : k ≤ 31) : (mk S 0 k = 0) = (anyb S k = false) := by
  rw [eq_iff_iff, anyb_f]
  constructor
  · intro h i hi
    have := hl_mk S 0 k (by omega) i (by omega)
    rw [h, hl_0 i (by omega)] at this
    simpa [hi] using this.symm
  · intro h
    exact mk_0 (fun i hi => by rw [Nat.zero_add]; exact h i hi)
theorem mk_s (S : Nat → Bool) (i : Nat) : mk S 0 (i + 1) = if S i = true then mk S 0 i ||| ((1 : Int32) <<< (nI i &&& 31)) else mk S 0 i := by
  rw [show mk S 0 (i + 1) = mk S 0 i ||| (if S (0 + i) = true then (1 : Int32) <<< (nI (0 + i) &&& 31) else 0) from rfl, Nat.zero_add]
  cases S i with
  | true => rfl
  | false => simp only [Bool.false_eq_true, if_false, or_z]
section
variable {z : Nat} {D : gk_M} {rn mn ln n : Nat} {P : Nat → Int32} {P4 P5 P6 : Nat → Option Nat} {B : Nat → Nat → Int32} {t : sd_S} {u : mo_S} {S : Nat → Bool}
theorem ow_of (h : ST z D rn mn ln P4 P5 P6 B) {m : Nat} (hm : m < mn) : B 6 m = nI (ow B m) ∧ ow B m < rn := by
  obtain ⟨o, tr, -, -, -, -, ⟨j, hj, hB⟩, -⟩ := h.2.2.2.2.1 m hm
  have h6 := h.1
  have : ow B m = j := by unfold ow; rw [hB, nI_clamp (by omega)]
  rw [this]
  exact ⟨hB, hj⟩
theorem owl_of (h : ST z D rn mn ln P4 P5 P6 B) {l : Nat} (hl : l < ln) : B 15 l = nI (owl B l) ∧ owl B l < rn := by
  obtain ⟨o, tr, -, -, -, -, -, ⟨j, hj, hB⟩, -⟩ := h.2.2.2.2.2 l hl
  have h6 := h.1
  have : owl B l = j := by unfold owl; rw [hB, nI_clamp (by omega)]
  rw [this]
  exact ⟨hB, hj⟩
theorem cs_bare (h : ST z D rn mn ln P4 P5 P6 B) (hC : CC rn mn ln n P P4 P5 P6 t) {x : Int32} (hS : ∀ r, r < rn → hl x r = S r) : fn_Catalog_bareMethods (some (z + 3)) x (me z D t u) = some (mk (br0 B S) 0 mn, me z D t u) := by
  have h12 := h.2.1
  unfold fn_Catalog_bareMethods fn_Catalog_bareMethods_4
  obtain ⟨a', w, h1, h2⟩ := lp_to (body := fun (kk : Option Nat × Int32 × Int32 × Int32 × gk_M → Option (Int32 × gk_M)) a => fn_Catalog_bareMethods_4_bd (fun a0 x1 x2 x3 M => kk (a0, x1, x2, x3, M)) a.1 a.2.1 a.2.2.1 a.2.2.2.1 a.2.2.2.2) (fun i st => st = (some (z + 3), x, mk (br0 B S) 0 i, nI i, me z D t u)) mn (fun i st hi hst => by
    subst hst
    refine ⟨_, rfl, fun kk => ?_⟩
    obtain ⟨o, tr, o1, o2, o3, -, -, -, -, -, -, -, -, o4, -⟩ := st_met h hi
    have e5 : gk_al (me z D t u) 4 (some (z + 5)) (nI i) = some (some o) := by rw [sd_al_5 (by omega), hC.2.2.2.2.2.2.1, o1]
    obtain ⟨w1, w2⟩ := ow_of h hi
    rw [mk_s]
    simp only [fn_Catalog_bareMethods_4_bd, sd_gi_2, hC.2.1, Option.bind_some, if_neg (nI_ge hi (by omega)), sd_gr_3_1, e5, o2, w1, cs_holds, hS _ w2, b2_0, o3, fn_Catalog_bareMethods_46, br0, nI_1]
    rcases bool_or (S (ow B i)) with hSo | hSo
    · simp only [hSo, if_true, Bool.false_and, Bool.false_eq_true, if_false]
    · simp only [hSo, Bool.true_eq_false, if_false, Bool.true_and]
      rcases o4 with ⟨o5, o6⟩ | ⟨a, o5, o6, -⟩
      · rw [if_pos o5, decide_eq_true o6, if_pos rfl]
      · rw [if_neg (by rw [o5]; simp), decide_eq_false (by omega), if_neg (by decide)]) mn 0 gk_fuel (some (z + 3), x, 0, 0, me z D t u) (by omega) (by unfold gk_fuel; omega) rfl
  subst h1
  rw [h2]
  simp only [fn_Catalog_bareMethods_4_bd, sd_gi_2, hC.2.1, Option.bind_some, if_pos (Int32.le_refl _)]
theorem cs_methodsWith (h : ST z D rn mn ln P4 P5 P6 B) (hC : CC rn mn ln n P P4 P5 P6 t) {x : Int32} (hS : ∀ r, r < rn → hl x r = S r) {b a : Nat} (ha : tpl z D a (tl B (6 + b))) : fn_Catalog_methodsWith (some (z + 3)) x (some a) (me z D t u) = some (mk (mS B S b) 0 mn, me z D t u) := by
  have h12 := h.2.1
  unfold fn_Catalog_methodsWith fn_Catalog_methodsWith_5
  obtain ⟨a', w, h1, h2⟩ := lp_to (body := fun (kk : Option Nat × Int32 × Option Nat × Int32 × Int32 × gk_M → Option (Int32 × gk_M)) a => fn_Catalog_methodsWith_5_bd (fun a0 x1 a2 x3 x4 M => kk (a0, x1, a2, x3, x4, M)) a.1 a.2.1 a.2.2.1 a.2.2.2.1 a.2.2.2.2.1 a.2.2.2.2.2) (fun i st => st = (some (z + 3), x, some a, mk (mS B S b) 0 i, nI i, me z D t u)) mn (fun i st hi hst => by
    subst hst
    refine ⟨_, rfl, fun kk => ?_⟩
    obtain ⟨o, tr, o1, o2, o3, -, -, -, -, -, -, -, -, o4, -⟩ := st_met h hi
    have e5 : gk_al (me z D t u) 4 (some (z + 5)) (nI i) = some (some o) := by rw [sd_al_5 (by omega), hC.2.2.2.2.2.2.1, o1]
    obtain ⟨w1, w2⟩ := ow_of h hi
    rw [mk_s]
    simp only [fn_Catalog_methodsWith_5_bd, sd_gi_2, hC.2.1, Option.bind_some, if_neg (nI_ge hi (by omega)), sd_gr_3_1, e5, o2, w1, cs_holds, hS _ w2, b2_0, o3, fn_Catalog_methodsWith_62, mS, nI_1]
    rcases bool_or (S (ow B i)) with hSo | hSo
    · simp only [hSo, if_true, Bool.false_and, Bool.false_eq_true, if_false]
    · simp only [hSo, Bool.true_eq_false, if_false, Bool.true_and]
      rcases o4 with ⟨o5, o6⟩ | ⟨a', o5, o6, o7⟩
      · rw [if_pos o5, o6, decide_eq_false (Nat.lt_irrefl 0), Bool.false_and, if_neg (by decide)]
      · obtain ⟨fs, hfs⟩ := tpl_ob o7
        have hsm := cs_same (t := t) (u := u) o7 ha
        rw [o5, if_neg (by simp), decide_eq_true o6, Bool.true_and]
        simp only [hfs, Option.bind_some, hsm, b2_0]
        cases decide (tl B (6 + i) = tl B (6 + b)) with
        | true => simp only [Bool.true_eq_false, if_false, if_true]
        | false => simp only [if_true, Bool.false_eq_true, if_false]) mn 0 gk_fuel (some (z + 3), x, some a, 0, 0, me z D t u) (by omega) (by unfold gk_fuel; omega) rfl
  subst h1
  rw [h2]
  simp only [fn_Catalog_methodsWith_5_bd, sd_gi_2, hC.2.1, Option.bind_some, if_pos (Int32.le_refl _)]
theorem cs_hm64 (hC : CC rn mn ln n P P4 P5 P6 t) (hn : n ≤ 24) {s m a : Nat} (hs : s ≤ n) (h6 : t.1 6 = nI s) (hg : tgd B (6 + m)) (h0 : 0 < tm B (6 + m)) (ha : tpl z D a (tl B (6 + m))) : ∃ t', tq t t' ∧ ∀ K (a3 : Option Nat), fn_Route_heaviestOfMethods_64 K (some (z + 14)) (some (z + 3)) (some (z + 20)) a3 (nI m) (some a) (me z D t u) = K (some (z + 14)) (some (z + 3)) (some (z + 20)) (if (qc n P (tl B (6 + m)) s && en n P (qw n P (tl B (6 + m)) s).2) = true then some a else a3) (nI (m + 1)) (me z D t' u) := by
  have c5 := hC.2.2.2.2.1
  obtain ⟨t', q1, q2, q3⟩ := cs_find (u := u) ha (hg.2.2.2.2 h0).1 hC.2.2.2.1 hn hs
  rw [c5] at q2 q3
  refine ⟨t', q1, fun K a3 => ?_⟩
  have hC' := hC.tq q1
  cases hc : qc n P (tl B (6 + m)) s with
  | false =>
    rw [hc] at q2
    simp only [fn_Route_heaviestOfMethods_64, sd_gr_14_0, Option.bind_some, sd_gi_6, h6, sd_ob_15, q2, b2_f, if_true, fn_Route_heaviestOfMethods_98, Bool.false_and, Bool.false_eq_true, if_false, nI_1]
  | true =>
    rw [hc] at q2
    obtain ⟨r1, r2, -⟩ := q3 hc
    have hle := (qw_le n P (tl B (6 + m)) s hs hc).2.1
    have hen := cs_endsAt (tx_pth (z := z) (D := D) (t := t') (u := u) hC'.2.2.2.1 hn) hle
    rw [hC'.2.2.2.2.1] at hen
    simp only [fn_Route_heaviestOfMethods_64, sd_gr_14_0, Option.bind_some, sd_gi_6, h6, sd_ob_15, q2, b2_t, if_neg e10, sd_gi_10, r2, sd_ob_20, hen, b2_0, fn_Route_heaviestOfMethods_98, Bool.true_and, nI_1]
    cases en n P (qw n P (tl B (6 + m)) s).2 with
    | true => simp only [Bool.true_eq_false, if_false, if_true]
    | false => simp only [if_true, Bool.false_eq_true, if_false]
def rT (z : Nat) (D : gk_M) (B : Nat → Nat → Int32) (b a3 : Option Nat) : Prop := match b with
  | none => a3 = none
  | some x => ∃ a, a3 = some a ∧ tpl z D a (tl B (6 + x))
theorem cs_hMet (h : ST z D rn mn ln P4 P5 P6 B) (hC : CC rn mn ln n P P4 P5 P6 t) (hn : n ≤ 24) {s : Nat} (hs : s ≤ n) (h6 : t.1 6 = nI s) (hS : ∀ r, r < rn → hl (t.1 7) r = S r) : ∃ t' a3, tq t t' ∧ fn_Route_heaviestOfMethods (some (z + 14)) (some (z + 3)) (some (z + 20)) (me z D t u) = some (a3, me z D t' u) ∧ rT z D B (bM n P B S s mn) a3 := by
  have h12 := h.2.1
  unfold fn_Route_heaviestOfMethods fn_Route_heaviestOfMethods_5
  obtain ⟨a', w, h1, h2⟩ := lp_to (body := fun (kk : Option Nat × Option Nat × Option Nat × Option Nat × Int32 × gk_M → Option (Option Nat × gk_M)) a => fn_Route_heaviestOfMethods_5_bd (fun a0 a1 a2 a3 x4 M => kk (a0, a1, a2, a3, x4, M)) a.1 a.2.1 a.2.2.1 a.2.2.2.1 a.2.2.2.2.1 a.2.2.2.2.2) (fun i st => ∃ t' a3, tq t t' ∧ st = (some (z + 14), some (z + 3), some (z + 20), a3, nI i, me z D t' u) ∧ rT z D B (bM n P B S s i) a3) mn (fun i st hi hst => by
    obtain ⟨t', a3, q, rfl, hr⟩ := hst
    have hC' := hC.tq q
    have h6' : t'.1 6 = nI s := (q.1 6 (by decide) (by decide)).trans h6
    have h7' : t'.1 7 = t.1 7 := q.1 7 (by decide) (by decide)
    obtain ⟨o, tr, o1, o2, o3, -, -, -, -, -, -, -, hg, o4, -⟩ := st_met h hi
    have e5 : gk_al (me z D t' u) 4 (some (z + 5)) (nI i) = some (some o) := by rw [sd_al_5 (by omega), hC'.2.2.2.2.2.2.1, o1]
    obtain ⟨w1, w2⟩ := ow_of h hi
    have skip : okM n P B S s i = false → bM n P B S s (i + 1) = bM n P B S s i := fun hk => by
      simp only [bM, hv, hk, Bool.false_eq_true, false_and, if_false]
      cases hv (okM n P B S s) (fun m => Wt (tl B (6 + m))) i <;> rfl
    rcases o4 with ⟨o5, o6⟩ | ⟨a, o5, o6, o7⟩
    · have hk : okM n P B S s i = false := by unfold okM; rw [o6, decide_eq_false (Nat.lt_irrefl 0), Bool.false_and, Bool.false_and]
      refine ⟨_, ⟨t', a3, q, rfl, by rw [skip hk]; exact hr⟩, fun kk => ?_⟩
      simp only [fn_Route_heaviestOfMethods_5_bd, sd_gi_2, hC'.2.1, Option.bind_some, if_neg (nI_ge hi (by omega)), sd_gr_3_1, e5, o3, if_pos o5, fn_Route_heaviestOfMethods_98, nI_1]
    · cases hSo : S (ow B i) with
      | false =>
        have hk : okM n P B S s i = false := by unfold okM; rw [hSo, Bool.and_false, Bool.false_and]
        refine ⟨_, ⟨t', a3, q, rfl, by rw [skip hk]; exact hr⟩, fun kk => ?_⟩
        simp only [fn_Route_heaviestOfMethods_5_bd, sd_gi_2, hC'.2.1, Option.bind_some, if_neg (nI_ge hi (by omega)), sd_gr_3_1, e5, o3, o5, reduceCtorEq, if_false, sd_gi_7, h7', o2, w1, cs_holds, hS _ w2, hSo, b2_f, if_true, fn_Route_heaviestOfMethods_98, nI_1]
      | true =>
        have hok : okM n P B S s i = (qc n P (tl B (6 + i)) s && en n P (qw n P (tl B (6 + i)) s).2) := by
          unfold okM; rw [decide_eq_true o6, hSo, Bool.true_and, Bool.true_and]
        obtain ⟨t'', q', hK⟩ := cs_hm64 (z := z) (D := D) (u := u) hC' hn hs h6' hg o6 o7
        rw [← hok] at hK
        cases hb : bM n P B S s i with
        | none =>
          rw [hb] at hr
          have hr : a3 = none := hr
          have hb1 : bM n P B S s (i + 1) = if okM n P B S s i = true then some i else none := by
            simp only [bM] at hb
            simp only [bM, hv, hb]
          refine ⟨_, ⟨t'', if okM n P B S s i = true then some a else a3, q.trans q', rfl, ?_⟩, fun kk => ?_⟩
          · rw [hb1]
            cases okM n P B S s i with
            | true => exact ⟨a, rfl, o7⟩
            | false => exact hr
          · simp only [fn_Route_heaviestOfMethods_5_bd, sd_gi_2, hC'.2.1, Option.bind_some, if_neg (nI_ge hi (by omega)), sd_gr_3_1, e5, o3, o5, reduceCtorEq, if_false, sd_gi_7, h7', o2, w1, cs_holds, hS _ w2, hSo, b2_t, if_neg e10, if_pos hr, hK]
        | some b =>
          rw [hb] at hr
          obtain ⟨a2, hr1, hr2⟩ := hr
          have hbo := hv_ok hb
          obtain ⟨-, -, -, -, -, -, -, -, -, -, -, -, bg1, bg2, -⟩ := st_met h (show b < mn by omega)
          have bg3 : 0 < tm B (6 + b) := by
            have := hbo.1
            unfold okM at this
            rw [Bool.and_eq_true, Bool.and_eq_true, decide_eq_true_eq] at this
            exact this.1.1
          have hhv := cs_heavier (t := t') (u := u) o7 hr2 (hg.2.2.2.2 o6).1 (bg1.2.2.2.2 bg3).1
          obtain ⟨fs, hfs⟩ := tpl_ob o7
          have hb1 : bM n P B S s (i + 1) = if okM n P B S s i = true ∧ Wt (tl B (6 + b)) < Wt (tl B (6 + i)) then some i else some b := by
            simp only [bM] at hb
            simp only [bM, hv, hb]
          by_cases cw : Wt (tl B (6 + b)) < Wt (tl B (6 + i))
          · rw [decide_eq_true cw, b2_t] at hhv
            refine ⟨_, ⟨t'', if okM n P B S s i = true then some a else a3, q.trans q', rfl, ?_⟩, fun kk => ?_⟩
            · rw [hb1]
              cases okM n P B S s i with
              | true => rw [if_pos ⟨rfl, cw⟩]; exact ⟨a, rfl, o7⟩
              | false => rw [if_neg (fun h => by cases h.1)]; exact ⟨a2, hr1, hr2⟩
            · simp only [fn_Route_heaviestOfMethods_5_bd, sd_gi_2, hC'.2.1, Option.bind_some, if_neg (nI_ge hi (by omega)), sd_gr_3_1, e5, o3, o5, reduceCtorEq, if_false, sd_gi_7, h7', o2, w1, cs_holds, hS _ w2, hSo, b2_t, if_neg e10, hr1, hfs, hhv, hK]
          · rw [decide_eq_false cw, b2_f] at hhv
            refine ⟨_, ⟨t', a3, q, rfl, ?_⟩, fun kk => ?_⟩
            · rw [hb1, if_neg (fun h => cw h.2)]; exact ⟨a2, hr1, hr2⟩
            · simp only [fn_Route_heaviestOfMethods_5_bd, sd_gi_2, hC'.2.1, Option.bind_some, if_neg (nI_ge hi (by omega)), sd_gr_3_1, e5, o3, o5, reduceCtorEq, if_false, sd_gi_7, h7', o2, w1, cs_holds, hS _ w2, hSo, b2_t, if_neg e10, hr1, hfs, hhv, if_true, fn_Route_heaviestOfMethods_98, nI_1]) mn 0 gk_fuel (some (z + 14), some (z + 3), some (z + 20), none, 0, me z D t u) (by omega) (by unfold gk_fuel; omega) ⟨t, none, tq.refl t, rfl, rfl⟩
  obtain ⟨t', a3, q, rfl, hr⟩ := h1
  rw [h2]
  refine ⟨t', a3, q, ?_, hr⟩
  simp only [fn_Route_heaviestOfMethods_5_bd, sd_gi_2, (hC.tq q).2.1, Option.bind_some, if_pos (Int32.le_refl _)]
theorem cs_hLoc (h : ST z D rn mn ln P4 P5 P6 B) (hC : CC rn mn ln n P P4 P5 P6 t) (hn : n ≤ 24) {s : Nat} (hs : s ≤ n) (h6 : t.1 6 = nI s) (hS : ∀ r, r < rn → hl (t.1 7) r = S r) : ∃ t', tq t t' ∧ fn_Route_heaviestLocator (some (z + 14)) (some (z + 3)) (some (z + 20)) (me z D t u) = some ((bL n P B S s ln).bind P6, me z D t' u) := by
  have h8 := h.2.2.1
  unfold fn_Route_heaviestLocator fn_Route_heaviestLocator_5
  obtain ⟨a', w, h1, h2⟩ := lp_to (body := fun (kk : Option Nat × Option Nat × Option Nat × Option Nat × Int32 × gk_M → Option (Option Nat × gk_M)) a => fn_Route_heaviestLocator_5_bd (fun a0 a1 a2 a3 x4 M => kk (a0, a1, a2, a3, x4, M)) a.1 a.2.1 a.2.2.1 a.2.2.2.1 a.2.2.2.2.1 a.2.2.2.2.2) (fun i st => ∃ t', tq t t' ∧ st = (some (z + 14), some (z + 3), some (z + 20), (bL n P B S s i).bind P6, nI i, me z D t' u)) ln (fun i st hi hst => by
    obtain ⟨t', q, rfl⟩ := hst
    have hC' := hC.tq q
    have h6' : t'.1 6 = nI s := (q.1 6 (by decide) (by decide)).trans h6
    have h7' : t'.1 7 = t.1 7 := q.1 7 (by decide) (by decide)
    obtain ⟨o, a, o1, o2, o3, -, hg, o6, o7, -⟩ := st_loc h hi
    have e6 : gk_al (me z D t' u) 5 (some (z + 6)) (nI i) = some (some o) := by rw [sd_al_6 (by omega), hC'.2.2.2.2.2.2.2, o1]
    obtain ⟨w1, w2⟩ := owl_of h hi
    cases hSo : S (owl B i) with
    | false =>
      have hk : okL n P B S s i = false := by unfold okL; rw [hSo, Bool.false_and]
      have hb1 : bL n P B S s (i + 1) = bL n P B S s i := by
        simp only [bL, hv, hk, Bool.false_eq_true, false_and, if_false]
        cases hv (okL n P B S s) (fun m => Wt (tl B (18 + m))) i <;> rfl
      refine ⟨_, ⟨t', q, rfl⟩, fun kk => ?_⟩
      simp only [fn_Route_heaviestLocator_5_bd, sd_gi_3, hC'.2.2.1, Option.bind_some, if_neg (nI_ge hi (by omega)), sd_gr_3_2, e6, sd_gi_7, h7', o2, w1, cs_holds, hS _ w2, hSo, b2_f, if_true, fn_Route_heaviestLocator_80, nI_1, hb1]
    | true =>
      have c5 := hC'.2.2.2.2.1
      obtain ⟨t'', q1, q2, q3⟩ := cs_find (u := u) o7 (hg.2.2.2.2 o6).1 hC'.2.2.2.1 hn hs
      rw [c5] at q2
      have hok : okL n P B S s i = qc n P (tl B (18 + i)) s := by unfold okL; rw [hSo, Bool.true_and]
      rw [← hok] at q2
      have hK : ∀ K (a3 : Option Nat), fn_Route_heaviestLocator_57 K (some (z + 14)) (some (z + 3)) (some (z + 20)) a3 (nI i) (some o) (me z D t' u) = K (some (z + 14)) (some (z + 3)) (some (z + 20)) (if okL n P B S s i = true then some o else a3) (nI (i + 1)) (me z D t'' u) := fun K a3 => by
        simp only [fn_Route_heaviestLocator_57, sd_gr_14_0, Option.bind_some, o3, sd_gi_6, h6', sd_ob_15, q2, b2_0, fn_Route_heaviestLocator_80, nI_1]
        cases okL n P B S s i with
        | true => simp only [Bool.true_eq_false, if_false, if_true]
        | false => simp only [if_true, Bool.false_eq_true, if_false]
      cases hb : bL n P B S s i with
      | none =>
        have hb1 : bL n P B S s (i + 1) = if okL n P B S s i = true then some i else none := by
          simp only [bL] at hb
          simp only [bL, hv, hb]
        refine ⟨_, ⟨t'', q.trans q1, rfl⟩, fun kk => ?_⟩
        simp only [fn_Route_heaviestLocator_5_bd, sd_gi_3, hC'.2.2.1, Option.bind_some, if_neg (nI_ge hi (by omega)), sd_gr_3_2, e6, sd_gi_7, h7', o2, w1, cs_holds, hS _ w2, hSo, b2_t, if_neg e10, Option.bind_none, if_true, hK, hb1]
        cases okL n P B S s i with
        | true => simp only [if_true, Option.bind_some, o1]
        | false => simp only [Bool.false_eq_true, if_false, Option.bind_none]
      | some b =>
        have hbo := hv_ok hb
        obtain ⟨o', a2, p1, p2, p3, -, pg, p6, p7, -⟩ := st_loc h (show b < ln by omega)
        have hhv := cs_heavier (t := t') (u := u) o7 p7 (hg.2.2.2.2 o6).1 (pg.2.2.2.2 p6).1
        obtain ⟨fs, hfs⟩ := tpl_ob o7
        have hb1 : bL n P B S s (i + 1) = if okL n P B S s i = true ∧ Wt (tl B (18 + b)) < Wt (tl B (18 + i)) then some i else some b := by
          simp only [bL] at hb
          simp only [bL, hv, hb]
        by_cases cw : Wt (tl B (18 + b)) < Wt (tl B (18 + i))
        · rw [decide_eq_true cw, b2_t] at hhv
          refine ⟨_, ⟨t'', q.trans q1, rfl⟩, fun kk => ?_⟩
          simp only [fn_Route_heaviestLocator_5_bd, sd_gi_3, hC'.2.2.1, Option.bind_some, if_neg (nI_ge hi (by omega)), sd_gr_3_2, e6, sd_gi_7, h7', o2, w1, cs_holds, hS _ w2, hSo, b2_t, if_neg e10, p1, reduceCtorEq, if_false, o3, p3, hfs, hhv, hK, hb1, cw, and_true]
          cases okL n P B S s i with
          | true => simp only [if_true, Option.bind_some, o1]
          | false => simp only [Bool.false_eq_true, if_false, Option.bind_some, p1]
        · rw [decide_eq_false cw, b2_f] at hhv
          refine ⟨_, ⟨t', q, rfl⟩, fun kk => ?_⟩
          simp only [fn_Route_heaviestLocator_5_bd, sd_gi_3, hC'.2.2.1, Option.bind_some, if_neg (nI_ge hi (by omega)), sd_gr_3_2, e6, sd_gi_7, h7', o2, w1, cs_holds, hS _ w2, hSo, b2_t, if_neg e10, p1, reduceCtorEq, if_false, o3, p3, hfs, hhv, if_true, fn_Route_heaviestLocator_80, hb1, cw, and_false, nI_1]) ln 0 gk_fuel (some (z + 14), some (z + 3), some (z + 20), none, 0, me z D t u) (by omega) (by unfold gk_fuel; omega) ⟨t, tq.refl t, rfl⟩
  obtain ⟨t', q, rfl⟩ := h1
  rw [h2]
  refine ⟨t', q, ?_⟩
  simp only [fn_Route_heaviestLocator_5_bd, sd_gi_3, (hC.tq q).2.2.1, Option.bind_some, if_pos (Int32.le_refl _)]
end
