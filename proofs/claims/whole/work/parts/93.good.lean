theorem ngr_nil : ngr [] = 0 := rfl
theorem ngr_cons (x : Int32) (l : List Int32) : ngr (x :: l) = (if x ≤ 3 then 1 else 0) + ngr l := by
  unfold ngr
  by_cases h : x ≤ 3
  · simp [h]; omega
  · simp [h]
theorem nnr_cons (x : Int32) (l : List Int32) : nnr (x :: l) = (if x = 2 ∨ x = 3 then 1 else 0) + nnr l := by
  unfold nnr
  by_cases h : x = 2 ∨ x = 3
  · simp [h]; omega
  · simp [h]
def fin (n : Nat) (f : Nat → Int32) (c g k : Nat) : Bool := gd n f k && (decide (0 < n ∧ f 0 = 47) && (!decide (0 < n ∧ f (n - 1) = 47) && (decide (2 ≤ c + (pk n f k).length) && decide (g + ngr (pk n f k) ≤ 4))))
theorem fin_end {n : Nat} {f : Nat → Int32} {c g k : Nat} (h : n ≤ k) : fin n f c g k = (decide (0 < n ∧ f 0 = 47) && (!decide (0 < n ∧ f (n - 1) = 47) && (decide (2 ≤ c) && decide (g ≤ 4)))) := by
  unfold fin
  rw [gd_nil h, pk_nil h, ngr_nil]
  simp
theorem fin_bad {n : Nat} {f : Nat → Int32} {c g k : Nat} (h : k < n) (hp : psz n f k = 0) : fin n f c g k = false := by
  unfold fin
  rw [gd_cons h, hp]
  simp
theorem fin_step {n : Nat} {f : Nat → Int32} {c g k : Nat} (h : k < n) (hk : kc (f k) = true) (hp : 0 < psz n f k) : fin n f (c + 1) (g + if psz n f k = 1 then 0 else 1) (k + psz n f k) = fin n f c g k := by
  unfold fin
  rw [gd_cons h, pk_cons h, ngr_cons, show max 1 (psz n f k) = psz n f k by omega]
  have e : (if pvl n f k ≤ 3 then 1 else 0 : Nat) = if psz n f k = 1 then 0 else 1 := by
    have := pvl_grp (n := n) hk hp
    by_cases h1 : psz n f k = 1
    · have h2 : ¬ pvl n f k ≤ 3 := by rw [this]; simp [h1]
      simp [h1, h2]
    · have h2 : pvl n f k ≤ 3 := by rw [this]; exact h1
      simp [h1, h2]
  rw [e]
  simp only [hp, decide_true, Bool.true_and, List.length_cons]
  rw [show c + 1 + (pk n f (k + psz n f k)).length = c + ((pk n f (k + psz n f k)).length + 1) by omega, Nat.add_assoc]
theorem fin_good {n : Nat} {f : Nat → Int32} : fin n f 0 0 0 = goodT n f := by
  unfold fin goodT
  have e1 : gd n f 0 = gdp n f n 0 := rfl
  have e2 : pk n f 0 = pieces n f := rfl
  rw [e1, e2]
  by_cases hn : 0 < n
  · simp only [hn, true_and, decide_true, Bool.true_and, Nat.zero_add]
    by_cases h0 : f 0 = 47
    · by_cases h1 : f (n - 1) = 47
      · simp [h0, h1]
      · simp [h0, h1, Bool.and_assoc]
    · simp [h0]
  · simp [hn]
set_option maxHeartbeats 1000000 in
theorem cs_isGood {M : gk_M} {A n : Nat} {f : Nat → Int32} (h : txM M A n f) (hk : ∀ i, i < n → kc (f i) = true) : fn_Template_isGood (some A) M = some (b2 (goodT n f), M) := by
  have hn := h.1
  obtain ⟨fs, hob⟩ := h.2.1
  have h1 := h.2.2.1
  have h00 : fn_Text_has (some A) 0 47 M = some (b2 (decide (0 < n ∧ f 0 = 47)), M) := cs_has h (k := 0) (by omega) 47
  rw [← fin_good]
  unfold fn_Template_isGood fn_Template_isGood_6
  refine (ev_loop (fun a => ∃ c g k : Nat, a = (some A, nI c, nI g, nI k, M) ∧ c ≤ k ∧ g ≤ k ∧ k ≤ n) (fun a => 25 - a.2.2.2.1.toNatClampNeg) (fun a => (b2 (fin n f a.2.1.toNatClampNeg a.2.2.1.toNatClampNeg a.2.2.2.1.toNatClampNeg), M)) ?_ gk_fuel _ ⟨0, 0, 0, rfl, by omega, by omega, by omega⟩ (by show 25 - (0 : Int32).toNatClampNeg < 4096; rw [show (0 : Int32).toNatClampNeg = 0 from rfl]; omega)).trans rfl
  rintro kk _ ⟨c, g, k, rfl, hc, hg, hkn⟩ hkk
  show fn_Template_isGood_6_bd (fun a0 x1 x2 x3 M => kk (a0, x1, x2, x3, M)) (some A) (nI c) (nI g) (nI k) M = some (b2 (fin n f (nI c).toNatClampNeg (nI g).toNatClampNeg (nI k).toNatClampNeg), M)
  rw [nI_clamp (by omega), nI_clamp (by omega), nI_clamp (by omega)]
  simp only [fn_Template_isGood_6_bd, fn_Template_isGood_92, h1, hob, Option.bind_some, ev_z0, ev_z1]
  by_cases hk2 : n ≤ k
  · rw [if_pos (nI_le hk2 (by omega)), fin_end hk2]
    simp only [h00, b2_d0, cs_hasN h, h1, hob, Option.bind_some]
    by_cases c1 : 0 < n ∧ f 0 = 47
    · by_cases c2 : 0 < n ∧ f (n - 1) = 47
      · rw [if_neg (fun q => q c1), if_neg (fun q => q c2), decide_eq_true c1, decide_eq_true c2]
        rfl
      · rw [if_neg (fun q => q c1), if_pos c2, decide_eq_true c1, decide_eq_false c2]
        by_cases c3 : 2 ≤ c
        · have c3' : ¬ nI c < 2 := nI_nlt (a := c) (b := 2) c3 (by omega)
          by_cases c4 : g ≤ 4
          · have c4' : ¬ (4 : Int32) < nI g := nI_nlt (a := 4) (b := g) c4 (by omega)
            rw [if_neg c3', if_neg c4', decide_eq_true c3, decide_eq_true c4]
            rfl
          · have c4' : (4 : Int32) < nI g := nI_lt (a := 4) (b := g) (by omega) (by omega)
            rw [if_neg c3', if_pos c4', decide_eq_true c3, decide_eq_false c4]
            rfl
        · have c3' : nI c < 2 := nI_lt (a := c) (b := 2) (by omega) (by omega)
          rw [if_pos c3', decide_eq_false c3]
          rfl
    · rw [if_pos c1, decide_eq_false c1]
      rfl
  · have hk3 : k < n := by omega
    rw [if_neg (nI_ge hk3 (by omega)), cs_pieceSize h hk3, Option.bind_some]
    have hp3 := psz_le n f k
    have hpi := psz_in (f := f) hk3
    by_cases hp : psz n f k = 0
    · rw [fin_bad hk3 hp, hp, if_pos (show nI 0 = 0 from rfl)]
      rfl
    · have hp0 : ¬ nI (psz n f k) = 0 := nI_ne0 (by omega) (by omega)
      rw [if_neg hp0]
      have es : nI k + nI (psz n f k) = nI (k + psz n f k) := nI_add _ _
      have hst := fin_step (c := c) (g := g) hk3 (hk k hk3) (by omega)
      by_cases hp1 : psz n f k = 1
      · rw [if_pos (by rw [hp1]; rfl)]
        simp only [fn_Template_isGood_40, es, nI_1]
        rw [show nI g + 0 = nI (g + 0) from by rw [show (0 : Int32) = nI 0 from rfl, nI_add]]
        refine (hkk _ ⟨c + 1, g + 0, k + psz n f k, rfl, by omega, by omega, by omega⟩ ?_ ?_).trans ?_
        · show 25 - (nI (k + psz n f k)).toNatClampNeg < 25 - (nI k).toNatClampNeg
          rw [nI_clamp (by omega), nI_clamp (by omega)]; omega
        · show (b2 (fin n f (nI (c + 1)).toNatClampNeg (nI (g + 0)).toNatClampNeg (nI (k + psz n f k)).toNatClampNeg), M) = (b2 (fin n f (nI c).toNatClampNeg (nI g).toNatClampNeg (nI k).toNatClampNeg), M)
          rw [nI_clamp (by omega), nI_clamp (by omega), nI_clamp (by omega), nI_clamp (by omega), nI_clamp (by omega), nI_clamp (by omega), ← hst, if_pos hp1]
        · show some (b2 (fin n f (nI (c + 1)).toNatClampNeg (nI (g + 0)).toNatClampNeg (nI (k + psz n f k)).toNatClampNeg), M) = _
          rw [nI_clamp (by omega), nI_clamp (by omega), nI_clamp (by omega), ← hst, if_pos hp1]
      · rw [if_neg (by rw [show (1 : Int32) = nI 1 from rfl, nI_eq (by omega) (by omega)]; exact hp1)]
        simp only [fn_Template_isGood_40, es, nI_1]
        refine (hkk _ ⟨c + 1, g + 1, k + psz n f k, rfl, by omega, by omega, by omega⟩ ?_ ?_).trans ?_
        · show 25 - (nI (k + psz n f k)).toNatClampNeg < 25 - (nI k).toNatClampNeg
          rw [nI_clamp (by omega), nI_clamp (by omega)]; omega
        · show (b2 (fin n f (nI (c + 1)).toNatClampNeg (nI (g + 1)).toNatClampNeg (nI (k + psz n f k)).toNatClampNeg), M) = (b2 (fin n f (nI c).toNatClampNeg (nI g).toNatClampNeg (nI k).toNatClampNeg), M)
          rw [nI_clamp (by omega), nI_clamp (by omega), nI_clamp (by omega), nI_clamp (by omega), nI_clamp (by omega), nI_clamp (by omega), ← hst, if_neg hp1]
        · show some (b2 (fin n f (nI (c + 1)).toNatClampNeg (nI (g + 1)).toNatClampNeg (nI (k + psz n f k)).toNatClampNeg), M) = _
          rw [nI_clamp (by omega), nI_clamp (by omega), nI_clamp (by omega), ← hst, if_neg hp1]
