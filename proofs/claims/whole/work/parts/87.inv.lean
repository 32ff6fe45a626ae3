/-! small numbers and words -/
def b2 (b : Bool) : Int32 := if b = true then 1 else 0
theorem b2_t : b2 true = 1 := rfl
theorem b2_f : b2 false = 0 := rfl
theorem b2_0 (b : Bool) : (b2 b = 0) = (b = false) := by cases b <;> simp [b2]
theorem b2_01 (b : Bool) : b2 b = 0 ∨ b2 b = 1 := by cases b <;> simp [b2]
theorem b2_z (b : Bool) : gk_z (b2 b) = some (b2 b) := by cases b <;> rfl
theorem i_nlt {x y : Int32} : (¬ x < y) = (y ≤ x) := by
  rw [Int32.lt_iff_toInt_lt, Int32.le_iff_toInt_le]; exact propext ⟨fun h => by omega, fun h => by omega⟩
theorem i_nle {x y : Int32} : (¬ x ≤ y) = (y < x) := by
  rw [Int32.lt_iff_toInt_lt, Int32.le_iff_toInt_le]; exact propext ⟨fun h => by omega, fun h => by omega⟩
def wi (x a b : Int32) : Bool := decide (a ≤ x ∧ x ≤ b)
theorem cs_within (x a b : Int32) (M : gk_M) : fn_SD_isWithin x a b M = some (b2 (wi x a b), M) := by
  unfold fn_SD_isWithin fn_SD_isWithin_14 wi
  by_cases h1 : x < a
  · have : ¬ a ≤ x := by rw [i_nle]; exact h1
    simp [h1, this, b2, gk_z]
  · have h1' : a ≤ x := by rw [← i_nlt]; exact h1
    by_cases h2 : b < x
    · have : ¬ x ≤ b := by rw [i_nle]; exact h2
      simp [h1, h2, this, b2, gk_z]
    · have h2' : x ≤ b := by rw [← i_nlt]; exact h2
      simp [h1, h2, h1', h2', b2, gk_z]
theorem ms_outside (x a b : Int32) (M : gk_M) : fn_Mo_outside x a b M = some (b2 (!wi x a b), M) := by
  unfold fn_Mo_outside fn_Mo_outside_10 wi
  by_cases h1 : x < a
  · have : ¬ a ≤ x := by rw [i_nle]; exact h1
    simp [h1, this, b2, gk_z]
  · have h1' : a ≤ x := by rw [← i_nlt]; exact h1
    by_cases h2 : x ≤ b
    · simp [h1, h2, h1', b2, gk_z]
    · simp [h1, h2, b2, gk_z]
theorem wi_t {x a b : Int32} : (wi x a b = true) = (a ≤ x ∧ x ≤ b) := by simp [wi]
/-- a number within 0 and n - 1 -/
theorem wi_ix {x : Int32} {n : Nat} (hn : n < 2 ^ 30) (h : wi x 0 (nI n - 1) = true) : ∃ j : Nat, j < n ∧ x = nI j := by
  rw [wi_t] at h
  have h0 : (nI n - nI 1).toInt = (n : Int) - 1 := pk_sub_toInt (by omega) (by omega)
  have h2 := Int32.le_iff_toInt_le.mp h.2
  rw [show nI n - 1 = nI n - nI 1 from rfl, h0] at h2
  obtain ⟨j, hj, rfl⟩ := nI_of (x := x) (by rw [i_nlt]; exact h.1)
  rw [nI_toInt hj] at h2
  exact ⟨j, by omega, rfl⟩
theorem wi_of {j n : Nat} (hn : n < 2 ^ 30) (h : j < n) : wi (nI j) 0 (nI n - 1) = true := by
  rw [wi_t]
  have h0 : (nI n - nI 1).toInt = (n : Int) - 1 := pk_sub_toInt (by omega) (by omega)
  refine ⟨nI_pos' (by omega), Int32.le_iff_toInt_le.mpr ?_⟩
  rw [show nI n - 1 = nI n - nI 1 from rfl, h0, nI_toInt (by omega)]
  omega
def isTy (x : Int32) : Bool := x == 0 || (wi x 16 51 && decide ((x &&& 15) ≤ 3))
theorem cs_isType (x : Int32) (M : gk_M) : fn_SD_isType x M = some (b2 (isTy x), M) := by
  unfold fn_SD_isType fn_SD_isType_15 fn_SD_isType_20 fn_SD_isType_37 isTy
  by_cases h0 : x = 0
  · subst h0
    simp [b2, gk_z, fn_SD_isType_20, fn_SD_isType_37]
  · simp only [if_neg h0, cs_within, Option.bind_some, b2_0]
    by_cases hw : wi x 16 51 = true
    · by_cases hl : (x &&& 15) ≤ 3
      · have : ¬ (3 : Int32) < (x &&& 15) := by rw [i_nlt]; exact hl
        simp [hw, h0, hl, this, fn_SD_isType_20, fn_SD_isType_37, b2, gk_z]
      · have : (3 : Int32) < (x &&& 15) := by rw [← i_nle]; exact hl
        simp [hw, h0, hl, this, fn_SD_isType_20, fn_SD_isType_37, b2, gk_z]
    · simp [hw, h0, fn_SD_isType_20, fn_SD_isType_37, b2, gk_z]
