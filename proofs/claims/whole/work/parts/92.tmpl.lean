/-! texts -/
def txM (M : gk_M) (a n : Nat) (f : Nat → Int32) : Prop := n ≤ 24 ∧ (∃ fs, gk_ob M 1 (some a) = some fs) ∧ gk_gi M 1 1 (some a) = some (nI n) ∧ ∃ q, gk_gr M 1 0 (some a) = some (some q) ∧ ∀ j, j < 24 → gk_il M 1 (some q) (nI j) = some (f j)
theorem tx_buf {z : Nat} {D : gk_M} {t : sd_S} {u : mo_S} {n : Nat} (h : t.1 0 = nI n) (hn : n ≤ 24) : txM (me z D t u) (z + 1) n (t.2.1 2) := ⟨hn, ⟨_, sd_ob_1⟩, by rw [sd_gi_0, h], z + 2, sd_gr_1_0, fun j hj => sd_il_2 hj⟩
theorem tx_pth {z : Nat} {D : gk_M} {t : sd_S} {u : mo_S} {n : Nat} (h : t.1 19 = nI n) (hn : n ≤ 24) : txM (me z D t u) (z + 20) n (t.2.1 21) := ⟨hn, ⟨_, sd_ob_20⟩, by rw [sd_gi_19, h], z + 21, sd_gr_20_0, fun j hj => sd_il_21 hj⟩
theorem cs_has {M : gk_M} {a n : Nat} {f : Nat → Int32} (h : txM M a n f) {k : Nat} (hk : k < 2 ^ 30) (c : Int32) : fn_Text_has (some a) (nI k) c M = some (b2 (decide (k < n ∧ f k = c)), M) := by
  obtain ⟨hn, -, h1, q, h2, h3⟩ := h
  simp only [fn_Text_has, fn_Text_has_26, h1, h2, Option.bind_some, if_neg (nI_pos (n := k) (by omega)), ev_z0, ev_z1]
  by_cases hkn : k < n
  · rw [if_neg (nI_ge hkn (by omega)), h3 k (by omega), Option.bind_some]
    by_cases hc : f k = c
    · simp [hc, hkn, b2]
    · simp [hc, b2]
  · rw [if_pos (nI_le (by omega) (by omega))]
    simp [hkn, b2]
theorem cs_hasN {M : gk_M} {a n : Nat} {f : Nat → Int32} (h : txM M a n f) (c : Int32) : fn_Text_has (some a) (nI n - 1) c M = some (b2 (decide (0 < n ∧ f (n - 1) = c)), M) := by
  by_cases hn : 0 < n
  · obtain ⟨k, rfl⟩ : ∃ k, n = k + 1 := ⟨n - 1, by omega⟩
    rw [nI_pred, cs_has h (by have := h.1; omega)]
    simp
  · have : n = 0 := by omega
    subst this
    have e : nI 0 - 1 < 0 := by decide
    simp only [fn_Text_has, fn_Text_has_26, if_pos e, ev_z0, Option.bind_some]
    simp [b2]
theorem b2_d0 (p : Prop) (i : Decidable p) : (b2 (@decide p i) = 0) = ¬ p := by rw [b2_0]; exact propext decide_eq_false_iff_not
theorem cs_pieceSize {M : gk_M} {a n : Nat} {f : Nat → Int32} (h : txM M a n f) {k : Nat} (hk : k < n) : fn_Template_pieceSize (some a) (nI k) M = some (nI (psz n f k), M) := by
  have hn := h.1
  obtain ⟨fs, hob⟩ := h.2.1
  have e1 : nI k + 1 = nI (k + 1) := nI_1 k
  have e2 : nI k + 2 = nI (k + 2) := by rw [show (2 : Int32) = nI 2 from rfl, nI_add]
  simp only [fn_Template_pieceSize, fn_Template_pieceSize_62, fn_Template_pieceSize_67, fn_Template_pieceSize_88, hob, Option.bind_some, e1, e2, cs_has h (k := k) (by omega), cs_has h (k := k + 1) (by omega), cs_has h (k := k + 2) (by omega), b2_d0, if_neg e10, if_true]
  unfold psz
  by_cases c1 : f k = 125
  · simp [c1, hk]; rfl
  · by_cases c2 : f k = 123
    · by_cases c3 : k + 1 < n ∧ f (k + 1) = 125
      · simp [c2, hk, c3]; rfl
      · by_cases c4 : k + 1 < n
        · by_cases c5 : f (k + 1) = 100
          · by_cases c6 : k + 2 < n ∧ f (k + 2) = 125
            · simp [c2, hk, c4, c5, c6]; rfl
            · simp [c2, hk, c4, c5, c6]; rfl
          · by_cases c7 : f (k + 1) = 114
            · by_cases c6 : k + 2 < n ∧ f (k + 2) = 125
              · simp [c2, hk, c4, c7, c6]; rfl
              · simp [c2, hk, c4, c7, c6]; rfl
            · have c3' : ¬ f (k + 1) = 125 := fun q => c3 ⟨c4, q⟩
              simp [c2, hk, c4, c5, c7, c3']; rfl
        · simp [c2, hk, c4]; rfl
    · simp [c1, c2, hk]; rfl
theorem cs_pieceAt {M : gk_M} {a n : Nat} {f : Nat → Int32} (h : txM M a n f) {k : Nat} (hk : k < n) : fn_Template_pieceAt (some a) (nI k) M = some (pvl n f k, M) := by
  have hn := h.1
  obtain ⟨fs, hob⟩ := h.2.1
  obtain ⟨-, -, -, q, hq, hf⟩ := id h
  have e1 : nI k + 1 = nI (k + 1) := nI_1 k
  simp only [fn_Template_pieceAt, hob, Option.bind_some, e1, cs_has h (k := k) (by omega), cs_has h (k := k + 1) (by omega), b2_d0, hq, hf k (by omega)]
  unfold pvl
  by_cases c2 : f k = 123
  · by_cases c4 : k + 1 < n
    · by_cases c5 : f (k + 1) = 100
      · simp [c2, hk, c4, c5]
      · by_cases c7 : f (k + 1) = 114
        · simp [c2, hk, c4, c7]
        · simp [c2, hk, c5, c7]
    · simp [c2, hk, c4]
  · simp [c2]
theorem cs_isGroup (x : Int32) (M : gk_M) : fn_Template_isGroup x M = some (b2 (decide (x ≤ 3)), M) := by
  unfold fn_Template_isGroup
  by_cases h : (3 : Int32) < x
  · have : ¬ x ≤ 3 := by rw [i_nle]; exact h
    simp [h, this, b2, gk_z]
  · have : x ≤ 3 := by rw [← i_nlt]; exact h
    simp [h, this, b2, gk_z]
/-! pieces from a place on -/
theorem pcs_fuel (n : Nat) (f : Nat → Int32) : ∀ (m k : Nat), n - k ≤ m → pcs n f m k = pcs n f (n - k) k
  | 0, k, h => by rw [show n - k = 0 by omega]
  | m + 1, k, h => by
    by_cases hk : k < n
    · obtain ⟨d, hd⟩ : ∃ d, n - k = d + 1 := ⟨n - k - 1, by omega⟩
      rw [hd, pcs, pcs, if_pos hk, if_pos hk]
      have hle : 1 ≤ max 1 (psz n f k) := Nat.le_max_left _ _
      rw [pcs_fuel n f m _ (by omega), pcs_fuel n f d (k + max 1 (psz n f k)) (by omega)]
    · rw [show n - k = 0 by omega, pcs, pcs, if_neg hk]
theorem gdp_fuel (n : Nat) (f : Nat → Int32) : ∀ (m k : Nat), n - k ≤ m → gdp n f m k = gdp n f (n - k) k
  | 0, k, h => by rw [show n - k = 0 by omega]
  | m + 1, k, h => by
    by_cases hk : k < n
    · obtain ⟨d, hd⟩ : ∃ d, n - k = d + 1 := ⟨n - k - 1, by omega⟩
      rw [hd, gdp, gdp, if_pos hk, if_pos hk]
      have hle : 1 ≤ max 1 (psz n f k) := Nat.le_max_left _ _
      rw [gdp_fuel n f m _ (by omega), gdp_fuel n f d (k + max 1 (psz n f k)) (by omega)]
    · rw [show n - k = 0 by omega, gdp, gdp, if_neg hk]
def pk (n : Nat) (f : Nat → Int32) (k : Nat) : List Int32 := pcs n f (n - k) k
def gd (n : Nat) (f : Nat → Int32) (k : Nat) : Bool := gdp n f (n - k) k
theorem pk_nil {n : Nat} {f : Nat → Int32} {k : Nat} (h : n ≤ k) : pk n f k = [] := by
  rw [pk, show n - k = 0 by omega, pcs]
theorem gd_nil {n : Nat} {f : Nat → Int32} {k : Nat} (h : n ≤ k) : gd n f k = true := by
  rw [gd, show n - k = 0 by omega, gdp]
theorem pk_cons {n : Nat} {f : Nat → Int32} {k : Nat} (h : k < n) : pk n f k = pvl n f k :: pk n f (k + max 1 (psz n f k)) := by
  obtain ⟨d, hd⟩ : ∃ d, n - k = d + 1 := ⟨n - k - 1, by omega⟩
  have hle : 1 ≤ max 1 (psz n f k) := Nat.le_max_left _ _
  rw [pk, hd, pcs, if_pos h, pcs_fuel n f d _ (by omega), pk]
theorem gd_cons {n : Nat} {f : Nat → Int32} {k : Nat} (h : k < n) : gd n f k = (decide (0 < psz n f k) && gd n f (k + max 1 (psz n f k))) := by
  obtain ⟨d, hd⟩ : ∃ d, n - k = d + 1 := ⟨n - k - 1, by omega⟩
  have hle : 1 ≤ max 1 (psz n f k) := Nat.le_max_left _ _
  rw [gd, hd, gdp, if_pos h, gdp_fuel n f d _ (by omega), gd]
theorem psz_le (n : Nat) (f : Nat → Int32) (k : Nat) : psz n f k ≤ 3 := by
  unfold psz
  split
  · omega
  · split
    · omega
    · split
      · omega
      · split <;> omega
theorem psz_in {n : Nat} {f : Nat → Int32} {k : Nat} (h : k < n) : k + psz n f k ≤ n := by
  unfold psz
  split
  · omega
  · split
    · omega
    · split
      · rename_i h3; omega
      · split
        · rename_i h4; omega
        · omega
theorem kc_big {x : Int32} (h : kc x = true) : ¬ x ≤ 3 := by
  rw [i_nle, Int32.lt_iff_toInt_lt]
  unfold kc at h
  simp only [Bool.or_eq_true, wi_t, beq_iff_eq, Int32.le_iff_toInt_le, ← Int32.toInt_inj] at h
  have e1 : (97 : Int32).toInt = 97 := by decide
  have e2 : (122 : Int32).toInt = 122 := by decide
  have e3 : (48 : Int32).toInt = 48 := by decide
  have e4 : (57 : Int32).toInt = 57 := by decide
  have e5 : (47 : Int32).toInt = 47 := by decide
  have e6 : (123 : Int32).toInt = 123 := by decide
  have e7 : (125 : Int32).toInt = 125 := by decide
  have e8 : (3 : Int32).toInt = 3 := by decide
  rw [e1, e2, e3, e4, e5, e6, e7] at h
  rw [e8]
  omega
/-- a good piece is a group iff it takes more than one character -/
theorem pvl_grp {n : Nat} {f : Nat → Int32} {k : Nat} (hk : kc (f k) = true) (h : 0 < psz n f k) : (pvl n f k ≤ 3) = ¬ psz n f k = 1 := by
  unfold psz at h
  unfold psz pvl
  by_cases c1 : f k = 125
  · simp [c1] at h
  · by_cases c2 : f k = 123
    · by_cases c3 : k + 1 < n ∧ f (k + 1) = 125
      · have e1 : ¬ (125 : Int32) = 100 := by decide
        have e2 : ¬ (125 : Int32) = 114 := by decide
        have e3 : (1 : Int32) ≤ 3 := by decide
        simp [c2, c3, e1, e2, e3]
      · simp only [c2, if_neg c3, not_true_eq_false, if_false] at h ⊢
        by_cases c4 : (k + 1 < n ∧ (f (k + 1) = 100 ∨ f (k + 1) = 114)) ∧ (k + 2 < n ∧ f (k + 2) = 125)
        · have e1 : (2 : Int32) ≤ 3 := by decide
          have e2 : (3 : Int32) ≤ 3 := by decide
          have e3 : (1 : Int32) ≤ 3 := by decide
          by_cases c5 : k + 1 < n ∧ f (k + 1) = 100
          · simp [c4, c5, e1]
          · by_cases c6 : k + 1 < n ∧ f (k + 1) = 114
            · simp [c4, c5, c6, e2]
            · exfalso
              rcases c4.1.2 with q | q
              · exact c5 ⟨c4.1.1, q⟩
              · exact c6 ⟨c4.1.1, q⟩
        · rw [if_neg c4] at h
          have e : ¬ (123 : Int32) = 125 := by decide
          simp [e] at h
    · simp only [c1, c2, if_false, not_false_eq_true, if_true]
      simp [kc_big hk]
