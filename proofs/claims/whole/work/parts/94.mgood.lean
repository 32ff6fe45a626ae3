/-! the reference's good template -/
def gat (n : Nat) (f : Nat → Int32) (k : Nat) : Nat := if k + 1 < n ∧ f (k + 1) = 125 then 1 else if k + 2 < n ∧ f (k + 2) = 125 then (if f (k + 1) = 100 then 2 else if f (k + 1) = 114 then 3 else 0) else 0
theorem ms_groupAt {z : Nat} {D : gk_M} {t : sd_S} {u : mo_S} {n : Nat} (hu : u.1 1 = nI n) (hn : n ≤ 24) {k : Nat} (hk : k < n) : fn_Mo_groupAt (some (z + 27)) (nI k) (me z D t u) = some (nI (gat n (u.2.2 0) k), me z D t u) := by
  have e1 : nI k + 1 = nI (k + 1) := nI_1 k
  have e2 : nI k + 2 = nI (k + 2) := by rw [show (2 : Int32) = nI 2 from rfl, nI_add]
  have d1 : ¬ (32 : Int32) = 125 := by decide
  simp only [fn_Mo_groupAt, fn_Mo_groupAt_23, fn_Mo_groupAt_47, mo_gi_1, hu, Option.bind_some, e1, e2, mo_gr_0, if_neg d1]
  unfold gat
  by_cases c1 : k + 1 < n
  · rw [if_neg (nI_ge c1 (by omega)), mo_il_0 (j := k + 1) (by omega), Option.bind_some]
    by_cases c2 : u.2.2 0 (k + 1) = 125
    · by_cases c3 : k + 2 < n
      · rw [if_neg (nI_ge c3 (by omega)), mo_il_0 (j := k + 2) (by omega), Option.bind_some]
        simp [c1, c2]; rfl
      · rw [if_pos (nI_le (by omega) (by omega))]
        simp [c1, c2]; rfl
    · by_cases c3 : k + 2 < n
      · rw [if_neg (nI_ge c3 (by omega)), mo_il_0 (j := k + 2) (by omega), Option.bind_some]
        by_cases c4 : u.2.2 0 (k + 2) = 125
        · by_cases c5 : u.2.2 0 (k + 1) = 100
          · simp [c3, c4, c5]; rfl
          · by_cases c6 : u.2.2 0 (k + 1) = 114
            · simp [c3, c4, c6]; rfl
            · simp [c2, c3, c4, c5, c6]; rfl
        · simp [c2, c4]; rfl
      · rw [if_pos (nI_le (by omega) (by omega))]
        simp [c2, c3]; rfl
  · have c3 : ¬ k + 2 < n := by omega
    rw [if_pos (nI_le (by omega) (by omega)), if_pos (nI_le (by omega) (by omega))]
    simp [c1, c3, d1]; rfl
theorem gat_psz {n : Nat} {f : Nat → Int32} {k : Nat} (h : f k = 123) : psz n f k = if gat n f k = 0 then 0 else if gat n f k = 1 then 2 else 3 := by
  have e : ¬ (123 : Int32) = 125 := by decide
  unfold psz gat
  rw [h, if_neg e]
  by_cases c1 : k + 1 < n ∧ f (k + 1) = 125
  · simp [c1]
  · by_cases c4 : k + 2 < n ∧ f (k + 2) = 125
    · have c0 : k + 1 < n := by omega
      by_cases c5 : f (k + 1) = 100
      · have : ¬ (100 : Int32) = 125 := by decide
        simp [c0, c4, c5]
      · by_cases c6 : f (k + 1) = 114
        · simp [c0, c4, c6]
        · simp [c1, c4, c5, c6]
    · simp [c1, c4]
set_option maxHeartbeats 1000000 in
theorem ms_good {z : Nat} {D : gk_M} {t : sd_S} {u : mo_S} {n : Nat} (hu : u.1 1 = nI n) (hn : n ≤ 24) (hk : ∀ i, i < n → kc (u.2.2 0 i) = true) : fn_Mo_goodTemplate (some (z + 27)) (me z D t u) = some (b2 (goodT n (u.2.2 0)), me z D t u) := by
  rw [← fin_good]
  generalize hf : u.2.2 0 = f at hk ⊢
  have il : ∀ j, j < 24 → gk_il (me z D t u) 1 (some (z + 28)) (nI j) = some (f j) := fun j hj => by rw [mo_il_0 hj, hf]
  have il0 : gk_il (me z D t u) 1 (some (z + 28)) 0 = some (f 0) := il 0 (by omega)
  unfold fn_Mo_goodTemplate fn_Mo_goodTemplate_6
  refine (ev_loop (fun a => ∃ c g k : Nat, a = (some (z + 27), nI c, nI g, nI k, me z D t u) ∧ c ≤ k ∧ g ≤ k ∧ k ≤ n) (fun a => 25 - a.2.2.2.1.toNatClampNeg) (fun a => (b2 (fin n f a.2.1.toNatClampNeg a.2.2.1.toNatClampNeg a.2.2.2.1.toNatClampNeg), me z D t u)) ?_ gk_fuel _ ⟨0, 0, 0, rfl, by omega, by omega, by omega⟩ (by show 25 - (0 : Int32).toNatClampNeg < 4096; rw [show (0 : Int32).toNatClampNeg = 0 from rfl]; omega)).trans rfl
  rintro kk _ ⟨c, g, k, rfl, hc, hg, hkn⟩ hkk
  show fn_Mo_goodTemplate_6_bd (fun a0 x1 x2 x3 M => kk (a0, x1, x2, x3, M)) (some (z + 27)) (nI c) (nI g) (nI k) (me z D t u) = some (b2 (fin n f (nI c).toNatClampNeg (nI g).toNatClampNeg (nI k).toNatClampNeg), me z D t u)
  rw [nI_clamp (by omega), nI_clamp (by omega), nI_clamp (by omega)]
  simp only [fn_Mo_goodTemplate_6_bd, fn_Mo_goodTemplate_152, mo_gi_1, hu, Option.bind_some, ev_z0, ev_z1, mo_gr_0, il0, mo_ob]
  by_cases hk2 : n ≤ k
  · rw [if_pos (nI_le hk2 (by omega)), fin_end hk2]
    by_cases c3 : 2 ≤ c
    · have c3' : ¬ nI c < 2 := nI_nlt (a := c) (b := 2) c3 (by omega)
      by_cases c4 : g ≤ 4
      · have c4' : ¬ (4 : Int32) < nI g := nI_nlt (a := 4) (b := g) c4 (by omega)
        have hn0 : 0 < n := by omega
        rw [if_neg c3', if_neg c4', decide_eq_true c3, decide_eq_true c4]
        have el : nI n - 1 = nI (n - 1) := by
          obtain ⟨m, rfl⟩ : ∃ m, n = m + 1 := ⟨n - 1, by omega⟩
          rw [nI_pred]; rfl
        by_cases c1 : f 0 = 47
        · rw [if_pos c1, el, il (n - 1) (by omega), Option.bind_some]
          by_cases c2 : f (n - 1) = 47
          · simp [c1, c2, hn0, b2]
          · simp [c1, c2, hn0, b2]
        · simp [c1, b2]
      · have c4' : (4 : Int32) < nI g := nI_lt (a := 4) (b := g) (by omega) (by omega)
        rw [if_neg c3', if_pos c4', decide_eq_false c4]
        simp [b2]
    · have c3' : nI c < 2 := nI_lt (a := c) (b := 2) (by omega) (by omega)
      rw [if_pos c3', decide_eq_false c3]
      simp [b2]
  · have hk3 : k < n := by omega
    have hp3 := psz_le n f k
    have hpi := psz_in (f := f) hk3
    rw [if_neg (nI_ge hk3 (by omega)), il k (by omega), Option.bind_some]
    have ga := ms_groupAt (z := z) (D := D) (t := t) hu hn hk3
    rw [hf] at ga
    have hgl : gat n f k ≤ 3 := by
      unfold gat
      split
      · omega
      · split
        · split
          · omega
          · split <;> omega
        · omega
    have hst := fin_step (c := c) (g := g) hk3 (hk k hk3)
    have next : ∀ g' k' : Nat, 0 < psz n f k → g' = g + (if psz n f k = 1 then 0 else 1) → k' = k + psz n f k → kk (some (z + 27), nI (c + 1), nI g', nI k', me z D t u) = some (b2 (fin n f c g k), me z D t u) := by
      intro g' k' h0 e1 e2
      have hg' : g' ≤ k' := by rw [e1, e2]; split <;> omega
      have hb : g' ≤ 30 ∧ k' ≤ 30 := by omega
      refine (hkk _ ⟨c + 1, g', k', rfl, by omega, hg', by omega⟩ ?_ ?_).trans ?_
      · show 25 - (nI k').toNatClampNeg < 25 - (nI k).toNatClampNeg
        rw [nI_clamp (by omega), nI_clamp (by omega)]; omega
      · show (b2 (fin n f (nI (c + 1)).toNatClampNeg (nI g').toNatClampNeg (nI k').toNatClampNeg), me z D t u) = (b2 (fin n f (nI c).toNatClampNeg (nI g).toNatClampNeg (nI k).toNatClampNeg), me z D t u)
        rw [nI_clamp (by omega), nI_clamp (by omega), nI_clamp (by omega), nI_clamp (by omega), nI_clamp (by omega), nI_clamp (by omega), ← hst h0, e1, e2]
      · show some (b2 (fin n f (nI (c + 1)).toNatClampNeg (nI g').toNatClampNeg (nI k').toNatClampNeg), me z D t u) = _
        rw [nI_clamp (by omega), nI_clamp (by omega), nI_clamp (by omega), ← hst h0, e1, e2]
    have x1 : nI k + 1 = nI (k + 1) := nI_1 k
    have x2 : nI k + 2 = nI (k + 2) := by rw [show (2 : Int32) = nI 2 from rfl, nI_add]
    have x3 : nI k + 3 = nI (k + 3) := by rw [show (3 : Int32) = nI 3 from rfl, nI_add]
    by_cases c1 : f k = 123
    · have hps := gat_psz (n := n) c1
      have d1 : ¬ (123 : Int32) = 125 := by decide
      rw [if_pos c1, ga, Option.bind_some]
      simp only [fn_Mo_goodTemplate_34, fn_Mo_goodTemplate_65, fn_Mo_goodTemplate_77, fn_Mo_goodTemplate_104, mo_gr_0, Option.bind_some, il k (by omega), c1, if_neg d1, if_true, ev_z0, nI_1, x1, x2, x3]
      by_cases g0 : gat n f k = 0
      · rw [g0, if_pos (show nI 0 = 0 from rfl), fin_bad hk3 (by rw [hps, if_pos g0])]
        rfl
      · rw [if_neg (nI_ne0 (by omega) (by omega)), if_neg (nI_nle (by omega) (by omega)), if_neg (nI_ne0 (by omega) (by omega))]
        by_cases g1 : gat n f k = 1
        · rw [if_pos (by rw [g1]; rfl)]
          exact next _ _ (by rw [hps, if_neg g0, if_pos g1]; omega) (by rw [hps, if_neg g0, if_pos g1]; rfl) (by rw [hps, if_neg g0, if_pos g1])
        · rw [if_neg (by rw [show (1 : Int32) = nI 1 from rfl, nI_eq (by omega) (by omega)]; exact g1)]
          exact next _ _ (by rw [hps, if_neg g0, if_neg g1]; omega) (by rw [hps, if_neg g0, if_neg g1]; rfl) (by rw [hps, if_neg g0, if_neg g1])
    · rw [if_neg c1]
      have z0 : (0 : Int32) ≤ 0 := by decide
      simp only [fn_Mo_goodTemplate_34, fn_Mo_goodTemplate_65, fn_Mo_goodTemplate_77, fn_Mo_goodTemplate_104, mo_gr_0, Option.bind_some, il k (by omega), if_neg c1, if_true, ev_z0, nI_1, x1, if_pos z0]
      by_cases c2 : f k = 125
      · rw [if_pos c2, fin_bad hk3 (by unfold psz; rw [if_pos c2])]
        rfl
      · have hps : psz n f k = 1 := by unfold psz; rw [if_neg c2, if_pos c1]
        rw [if_neg c2]
        exact next _ _ (by omega) (by rw [if_pos hps]; rfl) (by rw [hps])
/-! texts that agree -/
theorem psz_congr {n : Nat} {f g : Nat → Int32} (h : ∀ i, i < n → f i = g i) {k : Nat} (hk : k < n) : psz n f k = psz n g k := by
  unfold psz
  rw [h k hk]
  have e1 : ∀ c : Int32, (k + 1 < n ∧ f (k + 1) = c) = (k + 1 < n ∧ g (k + 1) = c) := fun c => propext (and_congr_right fun q => by rw [h _ q])
  have e2 : ∀ c : Int32, (k + 2 < n ∧ f (k + 2) = c) = (k + 2 < n ∧ g (k + 2) = c) := fun c => propext (and_congr_right fun q => by rw [h _ q])
  have e3 : (k + 1 < n ∧ (f (k + 1) = 100 ∨ f (k + 1) = 114)) = (k + 1 < n ∧ (g (k + 1) = 100 ∨ g (k + 1) = 114)) := propext (and_congr_right fun q => by rw [h _ q])
  simp only [e1, e2, e3]
theorem pvl_congr {n : Nat} {f g : Nat → Int32} (h : ∀ i, i < n → f i = g i) {k : Nat} (hk : k < n) : pvl n f k = pvl n g k := by
  unfold pvl
  rw [h k hk]
  have e1 : ∀ c : Int32, (k + 1 < n ∧ f (k + 1) = c) = (k + 1 < n ∧ g (k + 1) = c) := fun c => propext (and_congr_right fun q => by rw [h _ q])
  simp only [e1]
theorem pcs_congr {n : Nat} {f g : Nat → Int32} (h : ∀ i, i < n → f i = g i) : ∀ m k, pcs n f m k = pcs n g m k
  | 0, _ => rfl
  | m + 1, k => by
    unfold pcs
    by_cases hk : k < n
    · rw [if_pos hk, if_pos hk, psz_congr h hk, pvl_congr h hk, pcs_congr h m]
    · rw [if_neg hk, if_neg hk]
theorem gdp_congr {n : Nat} {f g : Nat → Int32} (h : ∀ i, i < n → f i = g i) : ∀ m k, gdp n f m k = gdp n g m k
  | 0, _ => rfl
  | m + 1, k => by
    unfold gdp
    by_cases hk : k < n
    · rw [if_pos hk, if_pos hk, psz_congr h hk, gdp_congr h m]
    · rw [if_neg hk, if_neg hk]
theorem pieces_congr {n : Nat} {f g : Nat → Int32} (h : ∀ i, i < n → f i = g i) : pieces n f = pieces n g := pcs_congr h n 0
theorem goodT_congr {n : Nat} {f g : Nat → Int32} (h : ∀ i, i < n → f i = g i) : goodT n f = goodT n g := by
  unfold goodT
  rw [pieces_congr h, gdp_congr h]
  by_cases hn : 0 < n
  · rw [h 0 hn, h (n - 1) (by omega)]
  · simp [hn]
