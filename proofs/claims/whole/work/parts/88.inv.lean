theorem ms_isType (x : Int32) (M : gk_M) : fn_Mo_isType x M = some (b2 (isTy x), M) := by
  have key : ∀ j, j < 64 → 16 ≤ j → (decide ((3 : Int32) < (nI j - nI j / 16 * 16)) = !(isTy (nI j))) := by decide +kernel
  have t0 : isTy 0 = true := by decide
  unfold fn_Mo_isType fn_Mo_isType_24 fn_Mo_isType_28
  by_cases h0 : x = 0
  · subst h0
    simp [b2, gk_z, t0]
  · have hx0 : ¬ (x == 0) = true := by simpa using h0
    by_cases h1 : x < 16
    · have : isTy x = false := by
        have hw : wi x 16 51 = false := by
          have : ¬ (16 : Int32) ≤ x := by rw [i_nle]; exact h1
          simp [wi, this]
        simp [isTy, h0, hw]
      simp [h0, h1, this, b2, gk_z]
    · have h1' : (16 : Int32) ≤ x := by rw [← i_nlt]; exact h1
      by_cases h2 : (64 : Int32) ≤ x
      · have : isTy x = false := by
          have hw : wi x 16 51 = false := by
            have : ¬ x ≤ 51 := by
              rw [i_nle, Int32.lt_iff_toInt_lt]
              have h3 := Int32.le_iff_toInt_le.mp h2
              have e1 : (64 : Int32).toInt = 64 := by decide
              have e2 : (51 : Int32).toInt = 51 := by decide
              omega
            simp [wi, this]
          simp [isTy, h0, hw]
        simp [h0, h1, h2, this, b2, gk_z]
      · have h2' : x < 64 := by rw [← i_nle]; exact h2
        have h10 := Int32.le_iff_toInt_le.mp h1'
        have h20 := Int32.lt_iff_toInt_lt.mp h2'
        have e1 : (64 : Int32).toInt = 64 := by decide
        have e2 : (16 : Int32).toInt = 16 := by decide
        obtain ⟨j, hj, rfl⟩ := nI_of (x := x) (by rw [Int32.lt_iff_toInt_lt, Int32.toInt_zero]; omega)
        rw [nI_toInt hj] at h10 h20
        have hk := key j (by omega) (by omega)
        by_cases h3 : (3 : Int32) < (nI j - nI j / 16 * 16)
        · rw [decide_eq_true h3] at hk
          have hf : isTy (nI j) = false := by simpa using hk.symm
          simp [h0, h1, h2, h3, hf, b2, gk_z]
        · rw [decide_eq_false h3] at hk
          have hf : isTy (nI j) = true := by simpa using hk.symm
          simp [h0, h1, h2, h3, hf, b2, gk_z]
/-! templates -/
def kc (x : Int32) : Bool := wi x 97 122 || wi x 48 57 || x == 47 || x == 123 || x == 125
def psz (n : Nat) (f : Nat → Int32) (k : Nat) : Nat := if f k = 125 then 0 else if ¬ f k = 123 then 1 else if k + 1 < n ∧ f (k + 1) = 125 then 2 else if (k + 1 < n ∧ (f (k + 1) = 100 ∨ f (k + 1) = 114)) ∧ (k + 2 < n ∧ f (k + 2) = 125) then 3 else 0
def pvl (n : Nat) (f : Nat → Int32) (k : Nat) : Int32 := if ¬ f k = 123 then f k else if k + 1 < n ∧ f (k + 1) = 100 then 2 else if k + 1 < n ∧ f (k + 1) = 114 then 3 else 1
def pcs (n : Nat) (f : Nat → Int32) : Nat → Nat → List Int32
  | 0, _ => []
  | m + 1, k => if k < n then pvl n f k :: pcs n f m (k + max 1 (psz n f k)) else []
def gdp (n : Nat) (f : Nat → Int32) : Nat → Nat → Bool
  | 0, _ => true
  | m + 1, k => if k < n then (decide (0 < psz n f k) && gdp n f m (k + max 1 (psz n f k))) else true
def pieces (n : Nat) (f : Nat → Int32) : List Int32 := pcs n f n 0
def ngr (l : List Int32) : Nat := (l.filter (fun x => decide (x ≤ 3))).length
def nnr (l : List Int32) : Nat := (l.filter (fun x => decide (x = 2 ∨ x = 3))).length
def goodT (n : Nat) (f : Nat → Int32) : Bool := decide (0 < n) && f 0 == 47 && !(f (n - 1) == 47) && gdp n f n 0 && decide (2 ≤ (pieces n f).length) && decide (ngr (pieces n f) ≤ 4)
def tpl (z : Nat) (D : gk_M) (a : Nat) (l : List Int32) : Prop := z + 61 ≤ a ∧ ∃ (p L : Nat) (g : Nat → Int32), z + 61 ≤ p ∧ gk_ob D 2 (some a) = some [.ref p, .int (nI l.length), .int (nI (l.length - ngr l)), .int (nI (ngr l)), .int (nI (nnr l))] ∧ gk_ia D 0 (some p) = some (L, g) ∧ l.length ≤ L ∧ L ≤ 24 ∧ ∀ i, i < l.length → g i = l.getD i 0
def tmp (z : Nat) (D : gk_M) (ro : Option Nat) (sz : Int32) (tx : Nat → Int32) : Prop := (ro = none ∧ sz = 0) ∨ ∃ (a n : Nat), ro = some a ∧ sz = nI n ∧ 0 < n ∧ n ≤ 24 ∧ goodT n tx = true ∧ (∀ i, i < n → kc (tx i) = true) ∧ tpl z D a (pieces n tx)
/-! what holds between the dispatcher and the reference between two calls -/
def I_D (z : Nat) (D : gk_M) : Prop := z + 61 ≤ D.2 ∧ ∀ a, D.2 ≤ a → D.1 a = none
def I_buf (s0 : Int32) (A2 : Nat → Int32) (v1 : Int32) (B0 : Nat → Int32) : Prop := ∃ n : Nat, n ≤ 24 ∧ s0 = nI n ∧ v1 = nI n ∧ ∀ i, i < n → A2 i = B0 i ∧ kc (A2 i) = true
def I_res (z : Nat) (D : gk_M) (s1 : Int32) (P4 : Nat → Option Nat) (v4 : Int32) (B3 B2 : Nat → Int32) : Prop := ∃ rn : Nat, rn ≤ 6 ∧ s1 = nI rn ∧ v4 = nI rn ∧ ∀ r, r < rn → tmp z D (P4 r) (B3 r) (fun i => B2 (24 * r + i))
def mrg (rn : Nat) (B : Nat → Nat → Int32) (m : Nat) : Prop := (∃ j, j < rn ∧ B 6 m = nI j) ∧ wi (B 7 m) 0 5 = true ∧ isTy (B 8 m) = true ∧ isTy (B 9 m) = true ∧ wi (B 10 m) 0 1000 = true ∧ wi (B 11 m) (-1) 9 = true ∧ wi (B 12 m) 0 3 = true ∧ wi (B 13 m) 0 15 = true
def I_met (z : Nat) (D : gk_M) (s2 : Int32) (P5 : Nat → Option Nat) (v4 v5 : Int32) (B : Nat → Nat → Int32) : Prop := ∃ rn mn : Nat, rn ≤ 6 ∧ v4 = nI rn ∧ mn ≤ 12 ∧ s2 = nI mn ∧ v5 = nI mn ∧ (∀ m, m < mn → ∃ (o : Nat) (tr : Option Nat), P5 m = some o ∧ z + 61 ≤ o ∧ gk_ob D 4 (some o) = some [.int (B 6 m), va_rf tr, .int (B 7 m), .int (B 8 m), .int (B 9 m), .int (B 10 m), .int (B 11 m), .int (B 12 m), .int (B 13 m)] ∧ tmp z D tr (B 3 (6 + m)) (fun i => B 2 (24 * (6 + m) + i)) ∧ mrg rn B m) ∧ (∀ m m', m < mn → m' < mn → P5 m = P5 m' → m = m') ∧ ∀ m, mn ≤ m → m < 12 → B 12 m = 0 ∧ B 13 m = 0
def I_loc (z : Nat) (D : gk_M) (s3 : Int32) (P6 : Nat → Option Nat) (v4 v14 : Int32) (B : Nat → Nat → Int32) : Prop := ∃ rn n : Nat, rn ≤ 6 ∧ v4 = nI rn ∧ n ≤ 8 ∧ s3 = nI n ∧ v14 = nI n ∧ ∀ l, l < n → ∃ (o : Nat) (tr : Option Nat), P6 l = some o ∧ z + 61 ≤ o ∧ gk_ob D 5 (some o) = some [.int (B 15 l), va_rf tr, .int (B 16 l)] ∧ ¬ tr = none ∧ tmp z D tr (B 3 (18 + l)) (fun i => B 2 (24 * (18 + l) + i)) ∧ (∃ j, j < rn ∧ B 15 l = nI j) ∧ ∃ j, j < rn ∧ B 16 l = nI j
def srt (n : Nat) (A : Nat → Int32) (lt : Nat → Nat → Prop) : Prop := ∃ ρ : Nat → Nat, (∀ i, i < n → A i = nI (ρ i) ∧ ρ i < n) ∧ (∀ i j, i < j → j < n → lt (ρ i) (ρ j)) ∧ ∀ f, f < n → ∃ i, i < n ∧ ρ i = f
def I_fil (z : Nat) (D : gk_M) (s4 : Int32) (P8 : Nat → Option Nat) (A9 A10 : Nat → Int32) (v17 : Int32) (B : Nat → Nat → Int32) : Prop := ∃ n : Nat, n ≤ 8 ∧ s4 = nI n ∧ v17 = nI n ∧ (∀ f, f < n → ∃ o : Nat, P8 f = some o ∧ z + 61 ≤ o ∧ gk_ob D 6 (some o) = some [.int (B 18 f), .int (B 19 f), .int (B 20 f), .int (B 21 f), .int (B 22 f)] ∧ wi (B 18 f) 0 99 = true ∧ wi (B 19 f) 0 3 = true ∧ wi (B 20 f) 0 2 = true ∧ (wi (B 22 f) 0 5 || wi (B 22 f) 100 599) = true) ∧ srt n A9 (fun i j => B 18 i < B 18 j ∨ (B 18 i = B 18 j ∧ i < j)) ∧ srt n A10 (fun i j => B 18 j < B 18 i ∨ (B 18 i = B 18 j ∧ i < j))
def I_map (A26 B24 : Nat → Int32) : Prop := ∀ k, k < 16 → A26 k = B24 k ∧ (B24 k = 0 ∨ wi (B24 k) 100 599 = true)
def I_acc (s5 : Int32) (A12 A13 : Nat → Int32) (v25 : Int32) (B26 B27 : Nat → Int32) : Prop := ∃ n : Nat, n ≤ 4 ∧ s5 = nI n ∧ v25 = nI n ∧ ∀ k, k < n → A12 k = B26 k ∧ A13 k = B27 k ∧ isTy (B26 k) = true ∧ wi (B27 k) 0 1000 = true
def I_pth (s19 : Int32) (A21 : Nat → Int32) (v29 : Int32) (B28 : Nat → Int32) (n : Nat) : Prop := n ≤ 24 ∧ s19 = nI n ∧ v29 = nI n ∧ ∀ i, i < n → A21 i = B28 i ∧ kc (A21 i) = true
def I_hop (s11 : Int32) (A22 : Nat → Int32) (v40 : Int32) (B41 : Nat → Int32) : Prop := ∃ n : Nat, n ≤ 24 ∧ s11 = nI n ∧ v40 = nI n ∧ ∀ i, i < n → A22 i = B41 i
def I_par (s12 : Int32) (A23 A24 : Nat → Int32) (v42 : Int32) (B43 B44 : Nat → Int32) (pn : Nat) : Prop := ∃ n : Nat, n ≤ 104 ∧ s12 = nI n ∧ v42 = nI n ∧ ∀ k, k < n → ∃ a l : Nat, a + l ≤ pn ∧ A23 k = nI a ∧ B43 k = nI a ∧ A24 k = nI (a + l) ∧ B44 k = nI l
def I_ran (s13 : Int32) (A25 : Nat → Int32) (v45 : Int32) (B46 : Nat → Int32) : Prop := ∃ n : Nat, n ≤ 8 ∧ s13 = nI n ∧ v45 = nI n ∧ ∀ i, i < n → A25 i = B46 i
def I_ans (s15 s16 s17 s18 v35 v36 v37 v38 v39 : Int32) : Prop := (v36 = 0 ∨ v36 = 1) ∧ s15 = (if v36 = 0 then -1 else v35) ∧ s16 = (if v36 = 0 then 0 else v37) ∧ s17 = v38 ∧ s18 = v39
def I_out (t : sd_S) (u : mo_S) : Prop := ∃ pn : Nat, I_pth (t.1 19) (t.2.1 21) (u.1 29) (u.2.2 28) pn ∧ I_hop (t.1 11) (t.2.1 22) (u.1 40) (u.2.2 41) ∧ I_par (t.1 12) (t.2.1 23) (t.2.1 24) (u.1 42) (u.2.2 43) (u.2.2 44) pn ∧ I_ran (t.1 13) (t.2.1 25) (u.1 45) (u.2.2 46) ∧ I_ans (t.1 15) (t.1 16) (t.1 17) (t.1 18) (u.1 35) (u.1 36) (u.1 37) (u.1 38) (u.1 39)
def Inv (z : Nat) (D : gk_M) (t : sd_S) (u : mo_S) : Prop := I_D z D ∧ I_buf (t.1 0) (t.2.1 2) (u.1 1) (u.2.2 0) ∧ I_res z D (t.1 1) (t.2.2 4) (u.1 4) (u.2.2 3) (u.2.2 2) ∧ I_met z D (t.1 2) (t.2.2 5) (u.1 4) (u.1 5) u.2.2 ∧ I_loc z D (t.1 3) (t.2.2 6) (u.1 4) (u.1 14) u.2.2 ∧ I_fil z D (t.1 4) (t.2.2 8) (t.2.1 9) (t.2.1 10) (u.1 17) u.2.2 ∧ I_map (t.2.1 26) (u.2.2 24) ∧ I_acc (t.1 5) (t.2.1 12) (t.2.1 13) (u.1 25) (u.2.2 26) (u.2.2 27) ∧ I_out t u
theorem inv_0 (z : Nat) : Inv z (fun _ => none, z + 61) t_0 u_0 := by
  refine ⟨⟨Nat.le_refl _, fun _ _ => rfl⟩, ⟨0, by omega, rfl, rfl, fun i h => absurd h (by omega)⟩, ⟨0, by omega, rfl, rfl, fun i h => absurd h (by omega)⟩, ⟨0, 0, by omega, rfl, by omega, rfl, rfl, fun i h => absurd h (by omega), fun i j h => absurd h (by omega), fun _ _ _ => ⟨rfl, rfl⟩⟩, ⟨0, 0, by omega, rfl, by omega, rfl, rfl, fun i h => absurd h (by omega)⟩, ⟨0, by omega, rfl, rfl, fun i h => absurd h (by omega), ⟨fun _ => 0, fun i h => absurd h (by omega), fun i j _ h => absurd h (by omega), fun i h => absurd h (by omega)⟩, ⟨fun _ => 0, fun i h => absurd h (by omega), fun i j _ h => absurd h (by omega), fun i h => absurd h (by omega)⟩⟩, fun k _ => ⟨rfl, Or.inl rfl⟩, ⟨0, by omega, rfl, rfl, fun i h => absurd h (by omega)⟩, ?_⟩
  exact ⟨0, ⟨by omega, rfl, rfl, fun i h => absurd h (by omega)⟩, ⟨0, by omega, rfl, rfl, fun i h => absurd h (by omega)⟩, ⟨0, by omega, rfl, rfl, fun i h => absurd h (by omega)⟩, ⟨0, by omega, rfl, rfl, fun i h => absurd h (by omega)⟩, Or.inl rfl, rfl, rfl, rfl, rfl⟩
/-! the calls that only tell -/
theorem op_invoked (z : Nat) : op_ok z (Inv z) (fn_SD_invoked (some z)) (fn_Mo_invoked (some (z + 27))) := by
  intro D t u hI
  obtain ⟨pn, -, -, -, -, h36, h15, -⟩ := hI.2.2.2.2.2.2.2.2
  refine ⟨t.1 15, D, t, u, by simp only [fn_SD_invoked, sd_gr_0_5, sd_gi_15, Option.bind_some], ?_, hI⟩
  simp only [fn_Mo_invoked, mo_gi_36, mo_gi_35, Option.bind_some]
  rw [h15]
  by_cases h : u.1 36 = 0
  · simp only [if_pos h]
  · simp only [if_neg h]
theorem op_argument (z : Nat) : op_ok z (Inv z) (fn_SD_argument (some z)) (fn_Mo_argument (some (z + 27))) := by
  intro D t u hI
  obtain ⟨pn, -, -, -, -, h36, -, h16, -⟩ := hI.2.2.2.2.2.2.2.2
  refine ⟨t.1 16, D, t, u, by simp only [fn_SD_argument, sd_gr_0_5, sd_gi_16, Option.bind_some], ?_, hI⟩
  simp only [fn_Mo_argument, mo_gi_36, mo_gi_37, Option.bind_some]
  rw [h16]
  by_cases h : u.1 36 = 0
  · simp only [if_pos h]
  · simp only [if_neg h]
theorem op_allowed (z : Nat) : op_ok z (Inv z) (fn_SD_allowed (some z)) (fn_Mo_allowed (some (z + 27))) := by
  intro D t u hI
  obtain ⟨pn, -, -, -, -, -, -, -, h17, -⟩ := hI.2.2.2.2.2.2.2.2
  exact ⟨t.1 17, D, t, u, by simp only [fn_SD_allowed, sd_gr_0_5, sd_gi_17, Option.bind_some], by simp only [fn_Mo_allowed, mo_gi_38, Option.bind_some, h17], hI⟩
theorem op_produced (z : Nat) : op_ok z (Inv z) (fn_SD_produced (some z)) (fn_Mo_produced (some (z + 27))) := by
  intro D t u hI
  obtain ⟨pn, -, -, -, -, -, -, -, -, h18⟩ := hI.2.2.2.2.2.2.2.2
  exact ⟨t.1 18, D, t, u, by simp only [fn_SD_produced, sd_gr_0_5, sd_gi_18, Option.bind_some], by simp only [fn_Mo_produced, mo_gi_39, Option.bind_some, h18], hI⟩
theorem op_hop (z : Nat) (k : Int32) : op_ok z (Inv z) (fn_SD_hop (some z) k) (fn_Mo_hop (some (z + 27)) k) := by
  intro D t u hI
  obtain ⟨pn, -, ⟨n, hn, h1, h2, h3⟩, -⟩ := hI.2.2.2.2.2.2.2.2
  by_cases hw : wi k 0 (nI n - 1) = true
  · obtain ⟨j, hj, rfl⟩ := wi_ix (by omega) hw
    refine ⟨t.2.1 22 j, D, t, u, ?_, ?_, hI⟩
    · simp only [fn_SD_hop, sd_gr_0_5, sd_gi_11, Option.bind_some, h1, cs_within, hw, b2_0, sd_gr_19_1, sd_il_22 (j := j) (by omega), Bool.true_eq_false, if_false]
    · simp only [fn_Mo_hop, mo_gi_40, Option.bind_some, h2, ms_outside, hw, b2_0, mo_gr_41, mo_il_41 (j := j) (by omega), Bool.not_true, if_true, h3 j hj]
  · have hw : wi k 0 (nI n - 1) = false := by simpa using hw
    exact ⟨-1, D, t, u, by simp only [fn_SD_hop, sd_gr_0_5, sd_gi_11, Option.bind_some, h1, cs_within, hw, b2_0, if_true], by simp only [fn_Mo_hop, mo_gi_40, Option.bind_some, h2, ms_outside, hw, b2_0, Bool.not_false, Bool.true_eq_false, if_false], hI⟩
theorem op_ran (z : Nat) (k : Int32) : op_ok z (Inv z) (fn_SD_ran (some z) k) (fn_Mo_ran (some (z + 27)) k) := by
  intro D t u hI
  obtain ⟨pn, -, -, -, ⟨n, hn, h1, h2, h3⟩, -⟩ := hI.2.2.2.2.2.2.2.2
  by_cases hw : wi k 0 (nI n - 1) = true
  · obtain ⟨j, hj, rfl⟩ := wi_ix (by omega) hw
    refine ⟨t.2.1 25 j, D, t, u, ?_, ?_, hI⟩
    · simp only [fn_SD_ran, sd_gr_0_5, sd_gi_13, Option.bind_some, h1, cs_within, hw, b2_0, sd_gr_19_4, sd_il_25 (j := j) (by omega), Bool.true_eq_false, if_false]
    · simp only [fn_Mo_ran, mo_gi_45, Option.bind_some, h2, ms_outside, hw, b2_0, mo_gr_46, mo_il_46 (j := j) (by omega), Bool.not_true, if_true, h3 j hj]
  · have hw : wi k 0 (nI n - 1) = false := by simpa using hw
    exact ⟨-1, D, t, u, by simp only [fn_SD_ran, sd_gr_0_5, sd_gi_13, Option.bind_some, h1, cs_within, hw, b2_0, if_true], by simp only [fn_Mo_ran, mo_gi_45, Option.bind_some, h2, ms_outside, hw, b2_0, Bool.not_false, Bool.true_eq_false, if_false], hI⟩
