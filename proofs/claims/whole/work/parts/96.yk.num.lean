/-! what a parameter's text is as a number -/
theorem lN_big {n : Nat} (h : n < 2 ^ 62) : (lN n).toInt = (n : Int) := by
  unfold lN
  exact Int64.toInt_ofNat_of_lt (by omega)
def dg (x : Int32) : Nat := x.toNatClampNeg - 48
def nu (P : Nat → Int32) : Nat → Nat → Nat → Option Nat
  | 0, _, a => some a
  | k + 1, i, a => if (wi (P i) 48 57 && decide (a * 10 + dg (P i) ≤ 2147483647)) = true then nu P k (i + 1) (a * 10 + dg (P i)) else none
def nuO (P : Nat → Int32) (a b : Nat) : Option Nat := if a = b then none else nu P (b - a) a 0
theorem kc_nI {x : Int32} (h : kc x = true) : ∃ c, c < 126 ∧ x = nI c := by
  have hx : (47 : Int32) ≤ x ∧ x ≤ 125 := by
    simp only [kc, Bool.or_eq_true, beq_iff_eq, wi_t] at h
    have l : ∀ a b : Int32, a.toInt ≤ b.toInt → a ≤ b := fun a b => Int32.le_iff_toInt_le.mpr
    have k : ∀ {a b : Int32}, a ≤ b → a.toInt ≤ b.toInt := fun q => Int32.le_iff_toInt_le.mp q
    have e47 : (47 : Int32).toInt = 47 := by decide
    have e125 : (125 : Int32).toInt = 125 := by decide
    have e97 : (97 : Int32).toInt = 97 := by decide
    have e122 : (122 : Int32).toInt = 122 := by decide
    have e48 : (48 : Int32).toInt = 48 := by decide
    have e57 : (57 : Int32).toInt = 57 := by decide
    have e123 : (123 : Int32).toInt = 123 := by decide
    rcases h with (((h | h) | h) | h) | h
    · have h1 := k h.1
      have h2 := k h.2
      exact ⟨l _ _ (by omega), l _ _ (by omega)⟩
    · have h1 := k h.1
      have h2 := k h.2
      exact ⟨l _ _ (by omega), l _ _ (by omega)⟩
    · subst h; exact ⟨by decide, by decide⟩
    · subst h; exact ⟨by decide, by decide⟩
    · subst h; exact ⟨by decide, by decide⟩
  have h1 := Int32.le_iff_toInt_le.mp hx.1
  obtain ⟨j, hj, rfl⟩ := nI_of2 (x := x) (M := 125) (n := 125) (by decide) (by
    rw [Int32.lt_iff_toInt_lt, Int32.toInt_zero]
    have e47 : (47 : Int32).toInt = 47 := by decide
    omega) hx.2
  exact ⟨j, by omega, rfl⟩
theorem dg_f {x : Int32} (h : kc x = true) : wi (x - 48) 0 9 = wi x 48 57 ∧ (x < 48) = ¬ (48 ≤ x) ∧ (wi x 48 57 = true → x - 48 = nI (dg x) ∧ dg x ≤ 9 ∧ x = nI (dg x + 48)) := by
  have key : ∀ c, c < 126 → wi (nI c - 48) 0 9 = wi (nI c) 48 57 ∧ (wi (nI c) 48 57 = true → nI c - 48 = nI (dg (nI c)) ∧ dg (nI c) ≤ 9 ∧ nI c = nI (dg (nI c) + 48)) := by decide +kernel
  obtain ⟨c, hc, rfl⟩ := kc_nI h
  obtain ⟨a, b⟩ := key c hc
  exact ⟨a, by rw [i_nle], b⟩
section
variable {z : Nat} {D : gk_M} {n : Nat} {P : Nat → Int32} {t : sd_S} {u : mo_S}
theorem cs_nstep (hn : n ≤ 24) (hP : ∀ i, i < n → t.2.1 21 i = P i ∧ kc (P i) = true) {b i : Nat} (hi : i < b) (hb : b ≤ n) (a : Int32) (x : Nat) (kk : Option Nat → Int32 → Int32 → Int64 → Int32 → gk_M → Option (Int32 × gk_M)) : fn_Outcome_numberIn_20_bd kk (some (z + 19)) a (nI b) (lN x) (nI i) (me z D t u) = if wi (P i) 48 57 = false then some (-1, me z D t u) else kk (some (z + 19)) a (nI b) (if (2147483648 : Int64) < lN (x * 10 + dg (P i)) then 2147483648 else lN (x * 10 + dg (P i))) (nI (i + 1)) (me z D t u) := by
  obtain ⟨p1, p2⟩ := hP i (by omega)
  have e21 : gk_il (me z D t u) 1 (some (z + 21)) (nI i) = some (P i) := by rw [sd_il_21 (by omega), p1]
  obtain ⟨d1, -, d3⟩ := dg_f p2
  simp only [fn_Outcome_numberIn_20_bd, if_neg (nI_ge hi (by omega)), sd_gr_19_0, sd_gr_20_0, Option.bind_some, e21, cs_within, d1, b2_0, nI_1]
  rcases bool_or (wi (P i) 48 57) with hw | hw
  · rw [if_pos hw, if_pos hw]
  · obtain ⟨d4, d5, -⟩ := d3 hw
    have hm : lN x * 10 + lN (dg (P i)) = lN (x * 10 + dg (P i)) := by
      rw [show (10 : Int64) = lN 10 from rfl, lN_mul, lN_add]
    have hw' : ¬ wi (P i) 48 57 = false := by rw [hw]; decide
    rw [if_neg hw', if_neg hw', d4, nI_l (by omega), hm]
/-- too great once, too great for ever -/
theorem cs_num_big (hn : n ≤ 24) (hP : ∀ i, i < n → t.2.1 21 i = P i ∧ kc (P i) = true) {a b : Nat} (hab : a < b) (hb : b ≤ n) : ∀ (k i F : Nat), i + k = b → k < F → gk_loop (α := Option Nat × Int32 × Int32 × Int64 × Int32 × gk_M) (fun kk a => fn_Outcome_numberIn_20_bd (fun a0 x2 x3 l4 x6 M => kk (a0, x2, x3, l4, x6, M)) a.1 a.2.1 a.2.2.1 a.2.2.2.1 a.2.2.2.2.1 a.2.2.2.2.2) F (some (z + 19), nI a, nI b, lN 2147483648, nI i, me z D t u) = some (-1, me z D t u) := by
  have hne : ¬ nI a = nI b := fun e => by have := (nI_eq (by omega) (by omega)).mp e; omega
  have hbig : ¬ lg_cmp (lN 2147483648) 2147483647 ≤ 0 := by rw [lg_cmp_le]; decide
  intro k
  induction k with
  | zero =>
    intro i F hi hF
    obtain ⟨F, rfl⟩ : ∃ F', F = F' + 1 := ⟨F - 1, by omega⟩
    have : i = b := by omega
    subst this
    rw [gk_loop_s]
    simp only [fn_Outcome_numberIn_20_bd, if_pos (Int32.le_refl _), if_neg hne, if_neg hbig, fn_Outcome_numberIn_92]
  | succ k ih =>
    intro i F hi hF
    obtain ⟨F, rfl⟩ : ∃ F', F = F' + 1 := ⟨F - 1, by omega⟩
    rw [gk_loop_s]
    refine (cs_nstep hn hP (show i < b by omega) hb (nI a) 2147483648 _).trans ?_
    rcases bool_or (wi (P i) 48 57) with hw | hw
    · rw [if_pos hw]
    · have hgt : (2147483648 : Int64) < lN (2147483648 * 10 + dg (P i)) := by
        have := (dg_f (hP i (by omega)).2).2.2 hw
        rw [Int64.lt_iff_toInt_lt, lN_big (by omega), show (2147483648 : Int64).toInt = 2147483648 by decide]
        omega
      rw [if_neg (by rw [hw]; decide), if_pos hgt]
      exact ih (i + 1) F (by omega) (by omega)
theorem cs_num (hn : n ≤ 24) (hP : ∀ i, i < n → t.2.1 21 i = P i ∧ kc (P i) = true) {a b : Nat} (hb : b ≤ n) (hab : a < b) : ∀ (k i F x : Nat), i + k = b → k < F → x ≤ 2147483647 → gk_loop (α := Option Nat × Int32 × Int32 × Int64 × Int32 × gk_M) (fun kk a => fn_Outcome_numberIn_20_bd (fun a0 x2 x3 l4 x6 M => kk (a0, x2, x3, l4, x6, M)) a.1 a.2.1 a.2.2.1 a.2.2.2.1 a.2.2.2.2.1 a.2.2.2.2.2) F (some (z + 19), nI a, nI b, lN x, nI i, me z D t u) = some (oI (nu P k i x), me z D t u) := by
  have hne : ¬ nI a = nI b := fun e => by have := (nI_eq (by omega) (by omega)).mp e; omega
  intro k
  induction k with
  | zero =>
    intro i F x hi hF hx
    obtain ⟨F, rfl⟩ : ∃ F', F = F' + 1 := ⟨F - 1, by omega⟩
    have : i = b := by omega
    subst this
    have hle : lg_cmp (lN x) 2147483647 ≤ 0 := by
      rw [lg_cmp_le, Int64.le_iff_toInt_le, lN_big (by omega), show (2147483647 : Int64).toInt = 2147483647 by decide]
      omega
    rw [gk_loop_s]
    simp only [fn_Outcome_numberIn_20_bd, if_pos (Int32.le_refl _), if_neg hne, if_pos hle, lN_i, nu, oI]
  | succ k ih =>
    intro i F x hi hF hx
    obtain ⟨F, rfl⟩ : ∃ F', F = F' + 1 := ⟨F - 1, by omega⟩
    rw [gk_loop_s]
    refine (cs_nstep hn hP (show i < b by omega) hb (nI a) x _).trans ?_
    rcases bool_or (wi (P i) 48 57) with hw | hw
    · rw [if_pos hw]
      simp only [nu, hw, Bool.false_and, Bool.false_eq_true, if_false, oI]
    · have hd := (dg_f (hP i (by omega)).2).2.2 hw
      rw [if_neg (by rw [hw]; decide)]
      by_cases c : x * 10 + dg (P i) ≤ 2147483647
      · have hgt : ¬ (2147483648 : Int64) < lN (x * 10 + dg (P i)) := by
          rw [Int64.lt_iff_toInt_lt, lN_big (by omega), show (2147483648 : Int64).toInt = 2147483648 by decide]
          omega
        rw [if_neg hgt, show nu P (k + 1) i x = nu P k (i + 1) (x * 10 + dg (P i)) by simp only [nu, hw, decide_eq_true c, Bool.and_self, if_true]]
        exact ih (i + 1) F (x * 10 + dg (P i)) (by omega) (by omega) c
      · have hmin : (if (2147483648 : Int64) < lN (x * 10 + dg (P i)) then (2147483648 : Int64) else lN (x * 10 + dg (P i))) = lN 2147483648 := by
          by_cases hgt : (2147483648 : Int64) < lN (x * 10 + dg (P i))
          · rw [if_pos hgt]; rfl
          · rw [if_neg hgt]
            rw [Int64.lt_iff_toInt_lt, lN_big (by omega), show (2147483648 : Int64).toInt = 2147483648 by decide] at hgt
            have : x * 10 + dg (P i) = 2147483648 := by omega
            rw [this]
        rw [hmin, show nu P (k + 1) i x = none by simp only [nu, hw, decide_eq_false c, Bool.and_false, Bool.false_eq_true, if_false]]
        exact cs_num_big (z := z) (D := D) (u := u) hn hP (a := a) (b := b) (by omega) hb k (i + 1) F (by omega) (by omega)
theorem cs_numberIn (hn : n ≤ 24) (hP : ∀ i, i < n → t.2.1 21 i = P i ∧ kc (P i) = true) {c a b : Nat} (hc : c < 104) (h23 : t.2.1 23 c = nI a) (h24 : t.2.1 24 c = nI b) (hab : a ≤ b) (hb : b ≤ n) : fn_Outcome_numberIn (some (z + 19)) (nI c) (me z D t u) = some (oI (nuO P a b), me z D t u) := by
  simp only [fn_Outcome_numberIn, sd_gr_19_2, sd_gr_19_3, Option.bind_some, sd_il_23 hc, sd_il_24 hc, h23, h24]
  unfold fn_Outcome_numberIn_20 nuO
  by_cases e : a = b
  · subst e
    rw [if_pos rfl]
    obtain ⟨F, hF⟩ : ∃ F, gk_fuel = F + 1 := ⟨4095, rfl⟩
    rw [hF, gk_loop_s]
    simp only [fn_Outcome_numberIn_20_bd, if_pos (Int32.le_refl _), if_true, fn_Outcome_numberIn_92, oI]
  · rw [if_neg e]
    exact cs_num hn hP hb (by omega) (b - a) a gk_fuel 0 (by omega) (by unfold gk_fuel; omega) (by omega)
theorem ms_num (hn : n ≤ 24) (h28 : ∀ i, i < n → u.2.2 28 i = P i) (hk : ∀ i, i < n → kc (P i) = true) {c a b : Nat} (hc : c < 104) (h43 : u.2.2 43 c = nI a) (h44 : u.2.2 44 c = nI (b - a)) (hab : a ≤ b) (hb : b ≤ n) : ∀ (k i F x : Nat), i + k = b → k < F → x ≤ 2147483647 → gk_loop (α := Option Nat × Int32 × Int64 × Int32 × gk_M) (fun kk a => fn_Mo_numberOf_35_bd (fun a0 x1 l2 x4 M => kk (a0, x1, l2, x4, M)) a.1 a.2.1 a.2.2.1 a.2.2.2.1 a.2.2.2.2) F (some (z + 27), nI c, lN x, nI i, me z D t u) = some (oI (nu P k i x), me z D t u) := by
  have hsum : nI a + nI (b - a) = nI b := by rw [nI_add]; congr 1; omega
  have hm1 : lg_cmp (-1 : Int64) 0 < 0 := by rw [lg_cmp_lt]; decide
  have fail : ∀ (F i : Nat), 0 < F → gk_loop (α := Option Nat × Int32 × Int64 × Int32 × gk_M) (fun kk a => fn_Mo_numberOf_35_bd (fun a0 x1 l2 x4 M => kk (a0, x1, l2, x4, M)) a.1 a.2.1 a.2.2.1 a.2.2.2.1 a.2.2.2.2) F (some (z + 27), nI c, -1, nI i, me z D t u) = some (-1, me z D t u) := by
    intro F i hF
    obtain ⟨F, rfl⟩ : ∃ F', F = F' + 1 := ⟨F - 1, by omega⟩
    rw [gk_loop_s]
    simp only [fn_Mo_numberOf_35_bd, mo_gr_43, mo_gr_44, Option.bind_some, mo_il_43 (show c < 112 by omega), mo_il_44 (show c < 112 by omega), h43, h44, hsum, if_pos hm1, fn_Mo_numberOf_142]
    split <;> rfl
  intro k
  induction k with
  | zero =>
    intro i F x hi hF hx
    obtain ⟨F, rfl⟩ : ∃ F', F = F' + 1 := ⟨F - 1, by omega⟩
    have : i = b := by omega
    subst this
    rw [gk_loop_s]
    simp only [fn_Mo_numberOf_35_bd, mo_gr_43, mo_gr_44, Option.bind_some, mo_il_43 (show c < 112 by omega), mo_il_44 (show c < 112 by omega), h43, h44, hsum, if_pos (Int32.le_refl _), fn_Mo_numberOf_142, lN_i, nu, oI]
  | succ k ih =>
    intro i F x hi hF hx
    obtain ⟨F, rfl⟩ : ∃ F', F = F' + 1 := ⟨F - 1, by omega⟩
    have p2 := hk i (by omega)
    have e28 : gk_il (me z D t u) 1 (some (z + 50)) (nI i) = some (P i) := by rw [mo_il_28 (by omega), h28 i (by omega)]
    obtain ⟨-, d2, d3⟩ := dg_f p2
    have hnn : ¬ lg_cmp (lN x) 0 < 0 := by
      rw [lg_cmp_lt, Int64.lt_iff_toInt_lt, lN_big (by omega), show (0 : Int64).toInt = 0 by decide]
      omega
    have hwx : wi (P i) 48 57 = decide (48 ≤ P i ∧ P i ≤ 57) := rfl
    rw [gk_loop_s]
    simp only [fn_Mo_numberOf_35_bd, mo_gr_43, mo_gr_44, Option.bind_some, mo_il_43 (show c < 112 by omega), mo_il_44 (show c < 112 by omega), h43, h44, hsum, if_neg (nI_ge (show i < b by omega) (by omega)), if_neg hnn, mo_gr_28, e28, fn_Mo_numberOf_87]
    have bad : wi (P i) 48 57 = false → fn_Mo_numberOf_88 (fun a0 x1 l2 x4 M => gk_loop (α := Option Nat × Int32 × Int64 × Int32 × gk_M) (fun kk a => fn_Mo_numberOf_35_bd (fun a0 x1 l2 x4 M => kk (a0, x1, l2, x4, M)) a.1 a.2.1 a.2.2.1 a.2.2.2.1 a.2.2.2.2) F (a0, x1, l2, x4, M)) (some (z + 27)) (nI c) (lN x) (nI i) 0 (me z D t u) = some (oI (nu P (k + 1) i x), me z D t u) := fun hw => by
      have hle : lg_cmp (-1 : Int64) 2147483647 ≤ 0 := by rw [lg_cmp_le]; decide
      simp only [fn_Mo_numberOf_88, if_true, fn_Mo_numberOf_119, if_pos hle, fn_Mo_numberOf_135, nI_1, nu, hw, Bool.false_and, Bool.false_eq_true, if_false]
      exact fail F (i + 1) (by omega)
    by_cases c1 : P i < 48
    · rw [if_pos c1]
      exact bad (by rw [hwx, decide_eq_false]; intro q; rw [d2] at c1; exact c1 q.1)
    · rw [if_neg c1]
      by_cases c2 : 57 < P i
      · rw [if_pos c2]
        exact bad (by rw [hwx, decide_eq_false]; intro q; rw [← i_nle] at c2; exact c2 q.2)
      · rw [if_neg c2]
        have hw : wi (P i) 48 57 = true := by
          rw [hwx, decide_eq_true]
          rw [i_nlt] at c1 c2
          exact ⟨c1, c2⟩
        obtain ⟨d4, d5, d6⟩ := d3 hw
        have h64 : (P i).toInt64 = lN (dg (P i) + 48) := by
          rw [← nI_l (by omega), ← d6]
        have hm : (10 : Int64) * lN x + lN (dg (P i) + 48) - 48 = lN (x * 10 + dg (P i)) := by
          rw [show (10 : Int64) = lN 10 from rfl, show (48 : Int64) = lN 48 from rfl, lN_mul, lN_add, lN_sub (by omega)]
          congr 1
          omega
        simp only [fn_Mo_numberOf_88, if_neg e10, mo_gr_28, Option.bind_some, e28, h64, hm, fn_Mo_numberOf_119, fn_Mo_numberOf_135, nI_1]
        by_cases c : x * 10 + dg (P i) ≤ 2147483647
        · have hle : lg_cmp (lN (x * 10 + dg (P i))) 2147483647 ≤ 0 := by
            rw [lg_cmp_le, Int64.le_iff_toInt_le, lN_big (by omega), show (2147483647 : Int64).toInt = 2147483647 by decide]
            omega
          rw [if_pos hle]
          simp only [nu, hw, decide_eq_true c, Bool.and_self, if_true]
          exact ih (i + 1) F (x * 10 + dg (P i)) (by omega) (by omega) c
        · have hle : ¬ lg_cmp (lN (x * 10 + dg (P i))) 2147483647 ≤ 0 := by
            rw [lg_cmp_le, Int64.le_iff_toInt_le, lN_big (by omega), show (2147483647 : Int64).toInt = 2147483647 by decide]
            omega
          rw [if_neg hle]
          simp only [nu, hw, decide_eq_false c, Bool.and_false, Bool.false_eq_true, if_false]
          exact fail F (i + 1) (by omega)
theorem ms_numberOf (hn : n ≤ 24) (h28 : ∀ i, i < n → u.2.2 28 i = P i) (hk : ∀ i, i < n → kc (P i) = true) {c a b np : Nat} (h42 : u.1 42 = nI np) (hnp : np ≤ 104) (hc : c < np) (h43 : u.2.2 43 c = nI a) (h44 : u.2.2 44 c = nI (b - a)) (hab : a ≤ b) (hb : b ≤ n) : fn_Mo_numberOf (some (z + 27)) (nI c) (me z D t u) = some (oI (nuO P a b), me z D t u) := by
  have hsum : nI a + nI (b - a) = nI b := by rw [nI_add]; congr 1; omega
  simp only [fn_Mo_numberOf, mo_gi_42, h42, Option.bind_some, if_pos (nI_lt hc (by omega)), mo_gr_44, mo_il_44 (show c < 112 by omega), h44, fn_Mo_numberOf_26, mo_gr_43, mo_il_43 (show c < 112 by omega), h43]
  unfold nuO
  by_cases e : a = b
  · subst e
    rw [Nat.sub_self, if_pos nI_0, if_pos rfl]
    unfold fn_Mo_numberOf_35
    obtain ⟨F, hF⟩ : ∃ F, gk_fuel = F + 1 := ⟨4095, rfl⟩
    rw [hF, gk_loop_s]
    simp only [fn_Mo_numberOf_35_bd, mo_gr_43, mo_gr_44, Option.bind_some, mo_il_43 (show c < 112 by omega), mo_il_44 (show c < 112 by omega), h43, h44, hsum, if_pos (Int32.le_refl _), fn_Mo_numberOf_142]
    rfl
  · rw [if_neg (nI_ne0 (by omega) (by omega)), if_neg e]
    unfold fn_Mo_numberOf_35
    exact ms_num hn h28 hk (show c < 104 by omega) h43 h44 hab hb (b - a) a gk_fuel 0 (by omega) (by unfold gk_fuel; omega) (by omega)
end
