theorem i_m1s (x : Int32) : x + (-1) = x - 1 := by rw [Int32.sub_eq_add_neg]
theorem up2_set (A : Nat → Nat → Int32) (i j : Nat) (x : Int32) : up2 A i j x = setA A i (upd (A i) j x) := by
  funext a
  by_cases h : a = i
  · subst h; rw [up2_self, setA_self]
  · rw [up2_ne _ _ _ h, setA_ne _ _ h]
def tq (t t' : sd_S) : Prop := (∀ k, k ≠ 9 → k ≠ 10 → t'.1 k = t.1 k) ∧ (∀ k, k ≠ 16 → k ≠ 17 → k ≠ 18 → t'.2.1 k = t.2.1 k) ∧ t'.2.2 = t.2.2
theorem tq.refl (t : sd_S) : tq t t := ⟨fun _ _ _ => rfl, fun _ _ _ _ => rfl, rfl⟩
theorem tq.trans {t t' t'' : sd_S} (h : tq t t') (h' : tq t' t'') : tq t t'' := ⟨fun k a b => (h'.1 k a b).trans (h.1 k a b), fun k a b c => (h'.2.1 k a b c).trans (h.2.1 k a b c), h'.2.2.trans h.2.2⟩
theorem List.drop_getD {l : List Int32} {p : Nat} (h : p < l.length) : l.drop p = l.getD p 0 :: l.drop (p + 1) := by
  rw [List.drop_eq_getElem_cons h]
  simp [List.getD, h]
def mk (S : Nat → Bool) (s : Nat) : Nat → Int32
  | 0 => 0
  | i + 1 => mk S s i ||| (if S (s + i) = true then (1 : Int32) <<< (nI (s + i) &&& 31) else 0)
theorem hl_mk (S : Nat → Bool) (s : Nat) : ∀ i, s + i ≤ 32 → ∀ j, j < 32 → hl (mk S s i) j = (decide (s ≤ j ∧ j < s + i) && S j)
  | 0, _, j, hj => by
    rw [show mk S s 0 = 0 from rfl, hl_0 j hj]
    simp only [show ¬ (s ≤ j ∧ j < s + 0) by omega, decide_false, Bool.false_and]
  | i + 1, h, j, hj => by
    rw [show mk S s (i + 1) = mk S s i ||| _ from rfl, hl_or hj, hl_mk S s i (by omega) j hj]
    by_cases hS : S (s + i) = true
    · rw [if_pos hS, hl_one (by omega) hj]
      by_cases hji : j = s + i
      · subst hji; simp [hS]
      · have : (s ≤ j ∧ j < s + (i + 1)) ↔ (s ≤ j ∧ j < s + i) := by omega
        simp only [hji, decide_false, Bool.or_false, this]
    · rw [if_neg hS, hl_0 j hj]
      by_cases hji : j = s + i
      · subst hji; simp [hS]
      · have : (s ≤ j ∧ j < s + (i + 1)) ↔ (s ≤ j ∧ j < s + i) := by omega
        simp only [Bool.or_false, this]
/-- the places are opened -/
theorem cs_open {z : Nat} {D : gk_M} {t : sd_S} {u : mo_S} {a n s : Nat} {l : List Int32} (hT : tpl z D a l) (h19 : t.1 19 = nI n) (hn : n ≤ 24) (hs : s ≤ n) : ∃ A : Nat → Int32, fn_Fit_openPlaces (some (z + 15)) (some a) (some (z + 20)) (nI s) (me z D t u) = some (me z D (t.1, setA t.2.1 16 A, t.2.2) u) ∧ ∀ p, p ≤ l.length → ∀ j, s ≤ j → j ≤ n → hl (A p) j = qc n (t.2.1 21) (l.drop p) j := by
  obtain ⟨q, w1, w2, w3, -, -, -, hl24⟩ := tpl_rd hT
  -- the rests
  have hr : ∀ (x4 : Int32), (∀ j, s ≤ j → j ≤ n → hl x4 j = qc n (t.2.1 21) [] j) → ∃ A : Nat → Int32, fn_Fit_openPlaces_69 (some (z + 15)) (some a) (some (z + 20)) (nI s) (nI l.length - 1) (me z D (t.1, setA t.2.1 16 (upd (t.2.1 16) l.length x4), t.2.2) u) = some (me z D (t.1, setA t.2.1 16 A, t.2.2) u) ∧ ∀ p, p ≤ l.length → ∀ j, s ≤ j → j ≤ n → hl (A p) j = qc n (t.2.1 21) (l.drop p) j := by
    intro x4 hx4
    unfold fn_Fit_openPlaces_69
    obtain ⟨a', m, h1, h2⟩ := lp_to (body := fun (kk : Option Nat × Option Nat × Option Nat × Int32 × Int32 × gk_M → Option gk_M) a => fn_Fit_openPlaces_69_bd (fun a0 a1 a2 x3 x5 M => kk (a0, a1, a2, x3, x5, M)) a.1 a.2.1 a.2.2.1 a.2.2.2.1 a.2.2.2.2.1 a.2.2.2.2.2) (fun i st => i ≤ l.length ∧ ∃ A : Nat → Int32, st = (some (z + 15), some a, some (z + 20), nI s, nI (l.length - i) - 1, me z D (t.1, setA t.2.1 16 A, t.2.2) u) ∧ ∀ p, l.length - i ≤ p → p ≤ l.length → ∀ j, s ≤ j → j ≤ n → hl (A p) j = qc n (t.2.1 21) (l.drop p) j) l.length (fun i st hi hst => by
      obtain ⟨-, A, rfl, hA⟩ := hst
      obtain ⟨p, hp⟩ : ∃ p, l.length - i = p + 1 := ⟨l.length - i - 1, by omega⟩
      rw [hp] at hA ⊢
      have hpl : p < l.length := by omega
      -- the inner loop
      obtain ⟨b', m', hb', hm'⟩ := lp_toK (body := fun (K : Option Nat → Option Nat → Option Nat → Int32 → Int32 → gk_M → Option gk_M) (kk : Option Nat × Option Nat × Option Nat × Int32 × Int32 × Int32 × Int32 × gk_M → Option gk_M) a => fn_Fit_openPlaces_80_bd K (fun a0 a1 a2 x3 x5 x6 x7 M => kk (a0, a1, a2, x3, x5, x6, x7, M)) a.1 a.2.1 a.2.2.1 a.2.2.2.1 a.2.2.2.2.1 a.2.2.2.2.2.1 a.2.2.2.2.2.2.1 a.2.2.2.2.2.2.2) (fun k st => st = (some (z + 15), some a, some (z + 20), nI s, nI p, mk (qc n (t.2.1 21) (l.drop p)) s k, nI (s + k), me z D (t.1, setA t.2.1 16 A, t.2.2) u)) (n + 1 - s) (fun k st hk hst => by
        subst hst
        refine ⟨_, rfl, fun K kk => ?_⟩
        have hle := cs_lastEnd (tx_pth (z := z) (D := D) (t := (t.1, setA t.2.1 16 A, t.2.2)) (u := u) h19 hn) (p := l.getD p 0) (j := s + k) (by omega) (x3 := A (p + 1)) (C := qc n (t.2.1 21) (l.drop (p + 1))) (fun e he he' => hA (p + 1) (Nat.le_refl _) (by omega) e (by omega) he')
        have hle : fn_Fit_lastEnd (l.getD p 0) (some (z + 20)) (nI (s + k)) (A (p + 1)) (me z D (t.1, setA t.2.1 16 A, t.2.2) u) = some (oI (qL n (t.2.1 21) (l.getD p 0) (qc n (t.2.1 21) (l.drop (p + 1))) (s + k)), me z D (t.1, setA t.2.1 16 A, t.2.2) u) := hle
        have hqc : qc n (t.2.1 21) (l.drop p) (s + k) = (qL n (t.2.1 21) (l.getD p 0) (qc n (t.2.1 21) (l.drop (p + 1))) (s + k)).isSome := by rw [List.drop_getD hpl]; rfl
        have hneg := oI_neg (r := qL n (t.2.1 21) (l.getD p 0) (qc n (t.2.1 21) (l.drop (p + 1))) (s + k)) (fun e he => by have := (qL_some (by omega) he).2.1; omega)
        have e1 : gk_il (me z D (t.1, setA t.2.1 16 A, t.2.2) u) 0 (some (z + 16)) (nI p + 1) = some (A (p + 1)) := by rw [nI_1, sd_il_16 (by omega)]; simp only [setA_self]
        simp only [fn_Fit_openPlaces_80_bd, sd_gi_19, h19, Option.bind_some, if_neg (nI_nlt (show s + k ≤ n by omega) (by omega)), w1, w2 _ _ p hpl, sd_gr_15_0, e1, hle, hneg, fn_Fit_openPlaces_125, mk, hqc]
        cases hq : qL n (t.2.1 21) (l.getD p 0) (qc n (t.2.1 21) (l.drop (p + 1))) (s + k) with
        | none => simp only [if_true, Option.isSome_none, Bool.false_eq_true, if_false, nI_1]; rfl
        | some e => simp only [reduceCtorEq, if_false, Option.isSome_some, if_true, nI_1]; rfl) (n + 1 - s) 0 gk_fuel (some (z + 15), some a, some (z + 20), nI s, nI p, 0, nI s, me z D (t.1, setA t.2.1 16 A, t.2.2) u) (by omega) (by unfold gk_fuel; omega) rfl
      subst hb'
      refine ⟨_, ⟨by omega, upd A p (mk (qc n (t.2.1 21) (l.drop p)) s (n + 1 - s)), rfl, fun p' h1 h2 j hj1 hj2 => ?_⟩, fun kk => ?_⟩
      · by_cases hpp : p' = p
        · subst hpp
          rw [pk_us, hl_mk _ _ _ (by omega) j (by omega)]
          simp only [show s ≤ j ∧ j < s + (n + 1 - s) by omega, and_self, decide_true, Bool.true_and]
        · rw [pk_un hpp]
          exact hA p' (by omega) h2 j hj1 hj2
      · have e2 : l.length - (i + 1) = p := by omega
        rw [e2]
        simp only [fn_Fit_openPlaces_69_bd, nI_pred, if_neg (nI_pos (show p < 2 ^ 31 by omega)), fn_Fit_openPlaces_80]
        rw [hm']
        simp only [fn_Fit_openPlaces_80_bd, sd_gi_19, h19, Option.bind_some, if_pos (nI_lt (show n < s + (n + 1 - s) by omega) (by omega)), sd_gr_15_0, sd_is_16 (show p < 25 by omega), setA_up, nar_int, i_m1s]) l.length 0 gk_fuel (some (z + 15), some a, some (z + 20), nI s, nI l.length - 1, me z D (t.1, setA t.2.1 16 (upd (t.2.1 16) l.length x4), t.2.2) u) (by omega) (by unfold gk_fuel; omega) ⟨by omega, upd (t.2.1 16) l.length x4, rfl, fun p h1 h2 j hj1 hj2 => by
          have : p = l.length := by omega
          subst this
          rw [pk_us, List.drop_length]
          exact hx4 j hj1 hj2⟩
    rw [h2]
    obtain ⟨-, A, rfl, hA⟩ := h1
    refine ⟨A, ?_, fun p hp => hA p (by omega) hp⟩
    have e3 : nI (l.length - l.length) - 1 < 0 := by rw [Nat.sub_self]; decide
    simp only [fn_Fit_openPlaces_69_bd, if_pos e3]
  -- the first loop
  unfold fn_Fit_openPlaces
  simp only [sd_gi_19, h19, Option.bind_some, fn_Fit_openPlaces_11]
  obtain ⟨a', m, h1, h2⟩ := lp_to (body := fun (kk : Option Nat × Option Nat × Option Nat × Int32 × Int32 × Int32 × gk_M → Option gk_M) a => fn_Fit_openPlaces_11_bd (fun a0 a1 a2 x3 x4 x5 M => kk (a0, a1, a2, x3, x4, x5, M)) a.1 a.2.1 a.2.2.1 a.2.2.2.1 a.2.2.2.2.1 a.2.2.2.2.2.1 a.2.2.2.2.2.2) (fun i st => s ≤ i ∧ ∃ x4, st = (some (z + 15), some a, some (z + 20), nI s, x4, nI i, me z D t u) ∧ ∀ j, s ≤ j → j ≤ n → hl x4 j = (decide (j = n) || decide (j < i ∧ t.2.1 21 j = 47))) n (fun i st hi hst => by
    obtain ⟨hsi, x4, rfl, hx⟩ := hst
    have hh := cs_has (tx_pth (z := z) (D := D) (u := u) h19 hn) (k := i) (by omega) 47
    by_cases hc : t.2.1 21 i = 47
    · refine ⟨_, ⟨by omega, x4 ||| ((1 : Int32) <<< (nI i &&& 31)), rfl, fun j h1 h2 => ?_⟩, fun kk => ?_⟩
      · rw [hl_or (by omega), hl_one (by omega) (by omega), hx j h1 h2]
        by_cases hji : j = i
        · subst hji; simp [hc]
        · have : j < i + 1 ↔ j < i := by omega
          simp only [hji, decide_false, Bool.or_false, this]
      · simp only [fn_Fit_openPlaces_11_bd, sd_gi_19, h19, Option.bind_some, if_neg (nI_ge hi (by omega)), sd_ob_20, hh, b2_d0, hi, hc, and_self, not_true_eq_false, if_false, fn_Fit_openPlaces_41, nI_1]
    · refine ⟨_, ⟨by omega, x4 ||| 0, rfl, fun j h1 h2 => ?_⟩, fun kk => ?_⟩
      · rw [hl_or (by omega), hl_0 _ (by omega), hx j h1 h2]
        by_cases hji : j = i
        · subst hji; simp [hc]
        · have : j < i + 1 ↔ j < i := by omega
          simp only [Bool.or_false, this]
      · simp only [fn_Fit_openPlaces_11_bd, sd_gi_19, h19, Option.bind_some, if_neg (nI_ge hi (by omega)), sd_ob_20, hh, b2_d0, hc, and_false, not_false_eq_true, if_true, fn_Fit_openPlaces_41, nI_1]) (n - s) s gk_fuel (some (z + 15), some a, some (z + 20), nI s, (1 : Int32) <<< (nI n &&& 31), nI s, me z D t u) (by omega) (by unfold gk_fuel; omega) ⟨Nat.le_refl _, _, rfl, fun j h1 h2 => by
      rw [hl_one (by omega) (by omega)]
      simp only [show ¬ (j < s ∧ t.2.1 21 j = 47) from fun h => by omega, decide_false, Bool.or_false]⟩
  rw [h2]
  obtain ⟨-, x4, rfl, hx⟩ := h1
  obtain ⟨A, hA1, hA2⟩ := hr x4 (fun j h1 h2 => hx j h1 h2)
  refine ⟨A, ?_, hA2⟩
  rw [← hA1]
  simp only [fn_Fit_openPlaces_11_bd, sd_gi_19, h19, Option.bind_some, if_pos (Int32.le_refl _), sd_gr_15_0, w3, sd_is_16 (show l.length < 25 by omega), nar_int]
  rw [up2_set]
