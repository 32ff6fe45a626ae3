/-! a request: how it begins -/
def badc (A : Nat → Int32) (i : Nat) : Bool := decide (A i = 123) || decide (A i = 125)
def pth (nb : Nat) (A : Nat → Int32) : Bool := !anyb (badc A) nb && decide (0 < nb ∧ A 0 = 47)
def cnc (x : Int32) : Bool := decide (x = 0) || (isTy x && !decide ((x &&& 15) = 0))
theorem cnc_ty {x : Int32} (h : cnc x = true) : isTy x = true := by
  unfold cnc at h
  rw [Bool.or_eq_true, decide_eq_true_eq, Bool.and_eq_true] at h
  rcases h with h | h
  · subst h; decide
  · exact h.1
theorem nar_c {x : Int32} (h : kc x = true) : vp_nar .char x = x := by
  have key : ∀ c, c < 126 → vp_nar .char (nI c) = nI c := by decide +kernel
  obtain ⟨c, hc, rfl⟩ := kc_nI h
  exact key c hc
theorem fit_c {x : Int32} (h : kc x = true) : fits .char (.int x) = true := by
  have key : ∀ c, c < 126 → fits .char (.int (nI c)) = true := by decide +kernel
  obtain ⟨c, hc, rfl⟩ := kc_nI h
  exact key c hc
section
variable {z : Nat} {D : gk_M} {t : sd_S} {u : mo_S} {nb : Nat}
theorem cs_isPath (h0 : t.1 0 = nI nb) (hn : nb ≤ 24) : fn_Text_isPath (some (z + 1)) (me z D t u) = some (b2 (pth nb (t.2.1 2)), me z D t u) := by
  unfold fn_Text_isPath fn_Text_isPath_2
  have hlp : ∀ k i F, i + k = nb → k < F → anyb (badc (t.2.1 2)) i = false → gk_loop (α := Option Nat × Int32 × gk_M) (fun kk a => fn_Text_isPath_2_bd (fun a0 x1 M => kk (a0, x1, M)) a.1 a.2.1 a.2.2) F (some (z + 1), nI i, me z D t u) = some (b2 (pth nb (t.2.1 2)), me z D t u) := by
    intro k
    induction k with
    | zero =>
      intro i F hi hF ha
      obtain ⟨F, rfl⟩ : ∃ F', F = F' + 1 := ⟨F - 1, by omega⟩
      have : i = nb := by omega
      subst this
      have hh := cs_has (tx_buf (z := z) (D := D) (t := t) (u := u) h0 hn) (k := 0) (by omega) 47
      rw [nI_0] at hh
      have hp : pth i (t.2.1 2) = decide (0 < i ∧ t.2.1 2 0 = 47) := by unfold pth; rw [ha, Bool.not_false, Bool.true_and]
      rw [gk_loop_s, hp]
      simp only [fn_Text_isPath_2_bd, sd_gi_0, h0, Option.bind_some, if_pos (Int32.le_refl _), sd_ob_1, hh, b2_z]
    | succ k ih =>
      intro i F hi hF ha
      obtain ⟨F, rfl⟩ : ∃ F', F = F' + 1 := ⟨F - 1, by omega⟩
      have hs : ∀ kk : Option Nat → Int32 → gk_M → Option (Int32 × gk_M), fn_Text_isPath_2_bd kk (some (z + 1)) (nI i) (me z D t u) = if badc (t.2.1 2) i = true then some (0, me z D t u) else kk (some (z + 1)) (nI (i + 1)) (me z D t u) := by
        intro kk
        simp only [fn_Text_isPath_2_bd, sd_gi_0, h0, Option.bind_some, if_neg (nI_ge (show i < nb by omega) (by omega)), sd_gr_1_0, sd_il_2 (show i < 24 by omega), ev_z0, nI_1]
        unfold badc
        by_cases c1 : t.2.1 2 i = 123
        · rw [if_pos c1, decide_eq_true c1, Bool.true_or, if_pos rfl]
        · rw [if_neg c1, decide_eq_false c1, Bool.false_or]
          by_cases c2 : t.2.1 2 i = 125
          · rw [if_pos c2, decide_eq_true c2, if_pos rfl]
          · rw [if_neg c2, decide_eq_false c2, if_neg (by decide)]
      rw [gk_loop_s]
      refine (hs _).trans ?_
      rcases bool_or (badc (t.2.1 2) i) with hb | hb
      · rw [if_neg (by rw [hb]; decide)]
        exact ih (i + 1) F (by omega) (by omega) (by simp only [anyb, ha, hb, Bool.or_self])
      · rw [if_pos hb]
        have hp : pth nb (t.2.1 2) = false := by
          unfold pth
          rw [show anyb (badc (t.2.1 2)) nb = true from anyb_t.mpr ⟨i, by omega, hb⟩, Bool.not_true, Bool.false_and]
        rw [hp]; rfl
  exact hlp nb 0 gk_fuel (by omega) (by unfold gk_fuel; omega) rfl
theorem cs_rhead (h0 : t.1 0 = nI nb) (hn : nb ≤ 24) (x1 x2 x3 : Int32) : fn_SD_request (some z) x1 x2 x3 (me z D t u) = fn_SD_request_33 (some z) x1 x2 x3 (b2 (pth nb (t.2.1 2) && (wi x1 0 5 && cnc x2))) (me z D t u) := by
  simp only [fn_SD_request, sd_gr_0_0, Option.bind_some, sd_ob_1, cs_isPath h0 hn, b2_0, cs_isVerb, cs_isConcrete, fn_SD_request_32, fn_SD_request_28]
  unfold cnc
  rcases bool_or (pth nb (t.2.1 2)) with hp | hp
  · rw [if_pos hp, hp, Bool.false_and, b2_f]
  · rw [if_neg (by rw [hp]; decide), hp, Bool.true_and]
    rcases bool_or (wi x1 0 5) with hw | hw
    · rw [if_pos hw, hw, Bool.false_and, b2_f]
    · rw [if_neg (by rw [hw]; decide), hw, Bool.true_and]
      by_cases c : x2 = 0
      · rw [if_pos c, decide_eq_true c, Bool.true_or, b2_t]
      · rw [if_neg c, decide_eq_false c, Bool.false_or]
        rcases bool_or (isTy x2 && !decide ((x2 &&& 15) = 0)) with hc | hc
        · rw [if_pos hc, hc, b2_f]
        · rw [if_neg (by rw [hc]; decide), hc, b2_t]
theorem ms_rhead {A : Nat → Int32} (h1 : u.1 1 = nI nb) (hn : nb ≤ 24) (hA : ∀ i, i < nb → u.2.2 0 i = A i) (x1 x2 x3 : Int32) : fn_Mo_request (some (z + 27)) x1 x2 x3 (me z D t u) = if (pth nb A && (wi x1 0 5 && cnc x2)) = false then some (-1, me z D t (upd u.1 1 0, u.2)) else fn_Mo_request_127 (some (z + 27)) x1 x2 x3 (nI nb) 0 (me z D t (upd u.1 1 0, u.2)) := by
  have hlp : ∀ g : Bool, fn_Mo_request_50 (some (z + 27)) x1 x2 x3 (b2 g) (me z D t u) = if (g && !anyb (badc A) nb) = false then some (-1, me z D t (upd u.1 1 0, u.2)) else fn_Mo_request_127 (some (z + 27)) x1 x2 x3 (nI nb) 0 (me z D t (upd u.1 1 0, u.2)) := by
    intro g
    unfold fn_Mo_request_50 fn_Mo_request_55
    obtain ⟨a', w, g1, g2⟩ := lp_to (body := fun (kk : Option Nat × Int32 × Int32 × Int32 × Int32 × Int32 × gk_M → Option (Int32 × gk_M)) a => fn_Mo_request_55_bd (fun a0 x1 x2 x3 x4 x5 M => kk (a0, x1, x2, x3, x4, x5, M)) a.1 a.2.1 a.2.2.1 a.2.2.2.1 a.2.2.2.2.1 a.2.2.2.2.2.1 a.2.2.2.2.2.2) (fun i st => st = (some (z + 27), x1, x2, x3, b2 (g && !anyb (badc A) i), nI i, me z D t u)) nb (fun i st hi hst => by
      subst hst
      refine ⟨_, rfl, fun kk => ?_⟩
      have e0 : gk_il (me z D t u) 1 (some (z + 28)) (nI i) = some (A i) := by rw [mo_il_0 (by omega), hA i hi]
      simp only [fn_Mo_request_55_bd, mo_gi_1, h1, Option.bind_some, if_neg (nI_ge hi (by omega)), b2_0, mo_gr_0, e0, fn_Mo_request_97, fn_Mo_request_98, nI_1, anyb]
      rcases bool_or (g && !anyb (badc A) i) with hg | hg
      · rw [if_pos hg, Bool.not_or, ← Bool.and_assoc, hg, Bool.false_and, b2_f]
      · rw [if_neg (by rw [hg]; decide), Bool.not_or, ← Bool.and_assoc, hg, Bool.true_and]
        unfold badc
        by_cases c1 : A i = 123
        · rw [if_pos c1, decide_eq_true c1, Bool.true_or, Bool.not_true, b2_f]
        · rw [if_neg c1, decide_eq_false c1, Bool.false_or]
          by_cases c2 : A i = 125
          · rw [if_pos c2, decide_eq_true c2, Bool.not_true, b2_f]
          · rw [if_neg c2, decide_eq_false c2, Bool.not_false, b2_t]) nb 0 gk_fuel (some (z + 27), x1, x2, x3, b2 g, 0, me z D t u) (by omega) (by unfold gk_fuel; omega) (by rw [show anyb (badc A) 0 = false from rfl, Bool.not_false, Bool.and_true]; rfl)
    subst g1
    rw [g2]
    simp only [fn_Mo_request_55_bd, mo_gi_1, h1, Option.bind_some, if_pos (Int32.le_refl _), mo_pf_1, b2_0]
  have hT := hlp true
  have hFa := hlp false
  rw [b2_t, Bool.true_and] at hT
  rw [b2_f, Bool.false_and, if_pos rfl] at hFa
  unfold fn_Mo_request
  simp only [mo_gi_1, h1, Option.bind_some, fn_Mo_request_49, fn_Mo_request_45, hFa, hT, mo_gr_0]
  by_cases c0 : 0 < nb
  · rw [if_neg (nI_nle c0 (by omega))]
    have e0 : gk_il (me z D t u) 1 (some (z + 28)) 0 = some (A 0) := by rw [← nI_0, mo_il_0 (by omega), hA 0 c0]
    simp only [e0, Option.bind_some]
    by_cases c1 : A 0 = 47
    · have hp : pth nb A = !anyb (badc A) nb := by unfold pth; rw [decide_eq_true (show 0 < nb ∧ A 0 = 47 from ⟨c0, c1⟩), Bool.and_true]
      rw [if_pos c1, hp]
      simp only [ms_outside, Option.bind_some, b2_0, ms_isType, hT, hFa]
      rcases bool_or (wi x1 0 5) with hw | hw
      · rw [if_neg (by rw [hw]; decide), hw, Bool.false_and, Bool.and_false, if_pos rfl]
      · rw [if_pos (by rw [hw]; rfl), hw, Bool.true_and]
        unfold cnc
        by_cases c : x2 = 0
        · rw [if_pos c, decide_eq_true c, Bool.true_or, Bool.and_true]
        · rw [if_neg c, decide_eq_false c, Bool.false_or]
          rcases bool_or (isTy x2) with hc | hc
          · rw [if_pos hc, hc, Bool.false_and, Bool.and_false, if_pos rfl]
          · rw [if_neg (by rw [hc]; decide), hc, Bool.true_and]
            simp only [ty_mod hc]
            by_cases cm : (x2 &&& 15) = 0
            · rw [if_pos cm, decide_eq_true cm, Bool.not_true, Bool.and_false, if_pos rfl]
            · rw [if_neg cm, decide_eq_false cm, Bool.not_false, Bool.and_true]
    · have hp : pth nb A = false := by unfold pth; rw [decide_eq_false (fun q => c1 q.2), Bool.and_false]
      rw [if_neg c1, hp, Bool.false_and, if_pos rfl]
  · have hp : pth nb A = false := by unfold pth; rw [decide_eq_false (fun q => c0 q.1), Bool.and_false]
    have : nb = 0 := by omega
    subst this
    rw [if_pos (by rw [nI_0]; exact Int32.le_refl _), hp, Bool.false_and, if_pos rfl]
theorem sd_cp (hn : nb ≤ 24) (hk : ∀ i, i < nb → kc (t.2.1 2 i) = true) : gk_cp (me z D t u) 1 .char (some (z + 2)) 0 (some (z + 21)) 0 (nI nb) = some (me z D (t.1, setA t.2.1 21 (va_cpy (t.2.1 2) (t.2.1 21) 0 0 nb), t.2.2) u) := by
  unfold gk_cp
  rw [sd_ia_2, sd_ia_21, Option.bind_some, Option.bind_some]
  have e0 : (0 : Int32).toNatClampNeg = 0 := by decide
  rw [e0, nI_clamp (by omega), if_pos]
  · rw [Option.map_some]
    refine congrArg some (me_usd (i := 21) (by decide) ?_ (fun a h1 h2 => ?_))
    · show sd_V z 21 t.1 (setA t.2.1 21 (va_cpy (t.2.1 2) (t.2.1 21) 0 0 nb) 21) (t.2.2 21) = _
      rw [setA_self]; rfl
    · show sd_V z a t.1 (setA t.2.1 21 (va_cpy (t.2.1 2) (t.2.1 21) 0 0 nb) a) (t.2.2 a) = _
      rw [setA_ne _ _ h2]
  · refine ⟨by decide, by decide, nI_pos (by omega), by show 0 + nb ≤ 24; omega, by show 0 + nb ≤ 24; omega, ?_⟩
    rw [List.all_eq_true]
    intro j hj
    rw [List.mem_range] at hj
    rw [Nat.zero_add]
    exact fit_c (hk j hj)
def tbg (k : Nat) : Prop := k < 11 ∨ 19 < k
theorem cs_begin (h0 : t.1 0 = nI nb) (hn : nb ≤ 24) (hk : ∀ i, i < nb → kc (t.2.1 2 i) = true) : ∃ t1 : sd_S, fn_Outcome_begin (some (z + 19)) (some (z + 1)) (me z D t u) = some (me z D t1 u) ∧ (∀ k, k < 11 → t1.1 k = t.1 k) ∧ (t1.1 11 = 0 ∧ t1.1 12 = 0 ∧ t1.1 13 = 0 ∧ t1.1 14 = -1 ∧ t1.1 15 = -1 ∧ t1.1 16 = 0 ∧ t1.1 17 = 0 ∧ t1.1 18 = -1 ∧ t1.1 19 = nI nb) ∧ (∀ k, k ≠ 21 → t1.2.1 k = t.2.1 k) ∧ (∀ i, i < nb → t1.2.1 21 i = t.2.1 2 i) ∧ t1.2.2 = t.2.2 := by
  refine ⟨(upd (upd (upd (upd (upd (upd (upd (upd (upd t.1 19 (nI nb)) 11 0) 12 0) 13 0) 14 (-1)) 15 (-1)) 16 0) 17 0) 18 (-1), setA t.2.1 21 (va_cpy (t.2.1 2) (t.2.1 21) 0 0 nb), t.2.2), ?_, fun k hk => ?_, ?_, fun k hk => setA_ne _ _ hk, fun i hi => ?_, rfl⟩
  · simp only [fn_Outcome_begin, fn_Text_copyFrom, sd_gr_19_0, Option.bind_some, sd_ob_20, sd_gr_1_0, sd_gr_20_0, sd_gi_0, h0, sd_cp hn hk, sd_pf_19, sd_pf_11, sd_pf_12, sd_pf_13, sd_pf_14, sd_pf_15, sd_pf_16, sd_pf_17, sd_pf_18]
  · simp only [upd, show ¬ k = 11 by omega, show ¬ k = 12 by omega, show ¬ k = 13 by omega, show ¬ k = 14 by omega, show ¬ k = 15 by omega, show ¬ k = 16 by omega, show ¬ k = 17 by omega, show ¬ k = 18 by omega, show ¬ k = 19 by omega, if_false]
  · exact ⟨rfl, rfl, rfl, rfl, rfl, rfl, rfl, rfl, rfl⟩
  · show setA t.2.1 21 (va_cpy (t.2.1 2) (t.2.1 21) 0 0 nb) 21 i = _
    rw [setA_self]
    unfold va_cpy
    rw [if_pos ⟨by omega, by omega⟩, Nat.zero_add, Nat.sub_zero]
end
