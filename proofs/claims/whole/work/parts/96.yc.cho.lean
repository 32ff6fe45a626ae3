/-! the verbs, the content, the choice: the dispatcher's -/
def vb (B : Nat → Nat → Int32) (m : Nat) : Nat := (B 7 m).toNatClampNeg
theorem vb_of {rn : Nat} {B : Nat → Nat → Int32} {m : Nat} (h : mrg rn B m) : B 7 m = nI (vb B m) ∧ vb B m < 6 := by
  have := wi_n (n := 5) (by decide) (by omega) h.2.1
  exact ⟨this.1, by have := this.2; unfold vb; omega⟩
def av (B : Nat → Nat → Int32) (C : Nat → Bool) : Nat → Nat
  | 0 => 32
  | m + 1 => if C m = true then av B C m ||| 2 ^ vb B m else av B C m
theorem av_f1 {a v : Nat} (ha : a < 64) (hv : v < 6) : (nI a ||| ((1 : Int32) <<< (nI v &&& 31))) = nI (a ||| 2 ^ v) ∧ a ||| 2 ^ v < 64 := by
  have key : ∀ a, a < 64 → ∀ v, v < 6 → (nI a ||| ((1 : Int32) <<< (nI v &&& 31))) = nI (a ||| 2 ^ v) ∧ a ||| 2 ^ v < 64 := by decide +kernel
  exact key a ha v hv
def md (a : Nat) : Int32 := if a % 2 = 1 then nI a ||| 16 else nI a
theorem av_f2 {a v : Nat} (ha : a < 64) (hv : v < 6) : ((md a ||| ((1 : Int32) <<< (nI v &&& 31))) ||| (if nI v = 0 then 16 else 0)) = md (a ||| 2 ^ v) := by
  have key : ∀ a, a < 64 → ∀ v, v < 6 → ((md a ||| ((1 : Int32) <<< (nI v &&& 31))) ||| (if nI v = 0 then 16 else 0)) = md (a ||| 2 ^ v) := by decide +kernel
  exact key a ha v hv
theorem av_f3 {a : Nat} (ha : a < 64) : hl (nI a) 0 = decide (a % 2 = 1) := by
  have key : ∀ a, a < 64 → hl (nI a) 0 = decide (a % 2 = 1) := by decide +kernel
  exact key a ha
theorem av_lt {B : Nat → Nat → Int32} {C : Nat → Bool} : ∀ {k : Nat}, (∀ m, m < k → vb B m < 6) → av B C k < 64
  | 0, _ => by show 32 < 64; decide
  | k + 1, h => by
    unfold av
    split
    · exact (av_f1 (av_lt (k := k) (fun m hm => h m (by omega))) (h k (by omega))).2
    · exact av_lt (k := k) (fun m hm => h m (by omega))
def c1 (B : Nat → Nat → Int32) (C : Nat → Bool) (v : Int32) (m : Nat) : Bool := C m && decide (B 7 m = v)
def c2 (B : Nat → Nat → Int32) (C : Nat → Bool) (x : Int32) (m : Nat) : Bool := C m && (decide (x = 0) || cv (B 8 m) x)
/-- those that the verb leaves -/
def cV (mn : Nat) (B : Nat → Nat → Int32) (C : Nat → Bool) (v : Int32) : Nat → Bool := if anyb (c1 B C v) mn = false ∧ v = 4 then c1 B C 0 else c1 B C v
def e3 (B : Nat → Nat → Int32) (ty : Nat → Int32) (r : Option (Nat × (Nat × Nat))) : Int32 × Option (Nat × Int32) := match r with
  | none => (10, none)
  | some p => if at3 (mt (ty p.2.2) (B 9 p.2.1)) = -1 then (10, none) else (0, some (p.2.1, at3 (mt (ty p.2.2) (B 9 p.2.1))))
def s3 (mn na : Nat) (B : Nat → Nat → Int32) (ty : Nat → Int32) (qs : Nat → Nat) (C : Nat → Bool) (v x : Int32) : Int32 × Option (Nat × Int32) :=
  if anyb (cV mn B C v) mn = false then (if v = 5 then -1 else 9, none)
  else if anyb (c2 B (cV mn B C v) x) mn = false then (11, none)
  else e3 B ty (fm (vm na ty qs B (fun m => if (!decide (x = 0)) = true then rk (B 8 m) else 0) (c2 B (cV mn B C v) x)) mn)
def t3 (t : sd_S) (a : Int32) (r : Option (Nat × Int32)) : sd_S := match r with
  | none => (upd t.1 17 a, t.2)
  | some p => (upd (upd (upd t.1 17 a) 14 (nI p.1)) 18 p.2, t.2)
theorem CC.up {rn mn ln n : Nat} {P : Nat → Int32} {P4 P5 P6 : Nat → Option Nat} {t : sd_S} (h : CC rn mn ln n P P4 P5 P6 t) {k : Nat} {x : Int32} (hk : 1 ≠ k ∧ 2 ≠ k ∧ 3 ≠ k ∧ 19 ≠ k) : CC rn mn ln n P P4 P5 P6 (upd t.1 k x, t.2) := by
  obtain ⟨a1, a2, a3, a4, a5⟩ := h
  exact ⟨(pk_un (f := t.1) (k := k) (x := x) hk.1).trans a1, (pk_un (f := t.1) (k := k) (x := x) hk.2.1).trans a2, (pk_un (f := t.1) (k := k) (x := x) hk.2.2.1).trans a3, (pk_un (f := t.1) (k := k) (x := x) hk.2.2.2).trans a4, a5⟩
section
variable {z : Nat} {D : gk_M} {rn mn ln n na : Nat} {P : Nat → Int32} {P4 P5 P6 : Nat → Option Nat} {B : Nat → Nat → Int32} {t : sd_S} {u : mo_S} {ty : Nat → Int32} {qs : Nat → Nat}
theorem hl_mk0 (C : Nat → Bool) {i : Nat} (hi : i < mn) (h12 : mn ≤ 12) : hl (mk C 0 mn) i = C i := by
  rw [hl_mk C 0 mn (by omega) i (by omega), decide_eq_true (show 0 ≤ i ∧ i < 0 + mn by omega), Bool.true_and]
theorem cs_verbs (h : ST z D rn mn ln P4 P5 P6 B) (hC : CC rn mn ln n P P4 P5 P6 t) (C : Nat → Bool) : fn_Catalog_verbsAllowedBy (some (z + 3)) (mk C 0 mn) (me z D t u) = some (md (av B C mn), me z D t u) := by
  have h12 := h.2.1
  have hv6 : ∀ m, m < mn → vb B m < 6 := fun m hm => by
    obtain ⟨o', tr', -, -, -, -, -, -, -, -, -, -, -, -, hm'⟩ := st_met h hm
    exact (vb_of hm').2
  unfold fn_Catalog_verbsAllowedBy fn_Catalog_verbsAllowedBy_5
  obtain ⟨a', w, h1, h2⟩ := lp_to (body := fun (kk : Option Nat × Int32 × Int32 × Int32 × gk_M → Option (Int32 × gk_M)) a => fn_Catalog_verbsAllowedBy_5_bd (fun a0 x1 x2 x3 M => kk (a0, x1, x2, x3, M)) a.1 a.2.1 a.2.2.1 a.2.2.2.1 a.2.2.2.2) (fun i st => st = (some (z + 3), mk C 0 mn, nI (av B C i), nI i, me z D t u)) mn (fun i st hi hst => by
    subst hst
    refine ⟨_, rfl, fun kk => ?_⟩
    obtain ⟨o, tr, o1, -, -, o7, -, -, -, -, -, -, -, -, hm⟩ := st_met h hi
    have e5 : gk_al (me z D t u) 4 (some (z + 5)) (nI i) = some (some o) := by rw [sd_al_5 (by omega), hC.2.2.2.2.2.2.1, o1]
    have hf := (av_f1 (av_lt (B := B) (C := C) (k := i) (fun m hm => hv6 m (by omega))) (hv6 i hi)).1
    simp only [fn_Catalog_verbsAllowedBy_5_bd, sd_gi_2, hC.2.1, Option.bind_some, if_neg (nI_ge hi (by omega)), cs_holds, hl_mk0 C hi h12, b2_0, sd_gr_3_1, e5, o7, (vb_of hm).1, hf, fn_Catalog_verbsAllowedBy_35, nI_1, av]
    rcases bool_or (C i) with hc | hc
    · rw [if_pos hc, if_neg (by rw [hc]; decide)]
    · rw [if_neg (by rw [hc]; decide), if_pos hc]) mn 0 gk_fuel (some (z + 3), mk C 0 mn, 32, 0, me z D t u) (by omega) (by unfold gk_fuel; omega) rfl
  subst h1
  rw [h2]
  have hlt := av_lt (B := B) (C := C) (k := mn) hv6
  have hh := cs_holds (nI (av B C mn)) 0 (me z D t u)
  rw [nI_0] at hh
  simp only [fn_Catalog_verbsAllowedBy_5_bd, sd_gi_2, hC.2.1, Option.bind_some, if_pos (Int32.le_refl _), hh, b2_0, av_f3 hlt, md]
  by_cases c : av B C mn % 2 = 1
  · rw [if_pos c, decide_eq_true c, if_neg (by decide)]
  · rw [if_neg c, decide_eq_false c, if_pos rfl]
theorem cs_withVerb (h : ST z D rn mn ln P4 P5 P6 B) (hC : CC rn mn ln n P P4 P5 P6 t) (C : Nat → Bool) (v : Int32) : fn_Catalog_withVerb (some (z + 3)) (mk C 0 mn) v (me z D t u) = some (mk (c1 B C v) 0 mn, me z D t u) := by
  have h12 := h.2.1
  unfold fn_Catalog_withVerb fn_Catalog_withVerb_5
  obtain ⟨a', w, h1, h2⟩ := lp_to (body := fun (kk : Option Nat × Int32 × Int32 × Int32 × Int32 × gk_M → Option (Int32 × gk_M)) a => fn_Catalog_withVerb_5_bd (fun a0 x1 x2 x3 x4 M => kk (a0, x1, x2, x3, x4, M)) a.1 a.2.1 a.2.2.1 a.2.2.2.1 a.2.2.2.2.1 a.2.2.2.2.2) (fun i st => st = (some (z + 3), mk C 0 mn, v, mk (c1 B C v) 0 i, nI i, me z D t u)) mn (fun i st hi hst => by
    subst hst
    refine ⟨_, rfl, fun kk => ?_⟩
    obtain ⟨o, tr, o1, -, -, o7, -⟩ := st_met h hi
    have e5 : gk_al (me z D t u) 4 (some (z + 5)) (nI i) = some (some o) := by rw [sd_al_5 (by omega), hC.2.2.2.2.2.2.1, o1]
    rw [mk_s]
    simp only [fn_Catalog_withVerb_5_bd, sd_gi_2, hC.2.1, Option.bind_some, if_neg (nI_ge hi (by omega)), cs_holds, hl_mk0 C hi h12, b2_0, sd_gr_3_1, e5, o7, fn_Catalog_withVerb_44, nI_1]
    rcases bool_or (C i) with hc | hc
    · rw [if_pos hc, show c1 B C v i = false by unfold c1; rw [hc]; rfl, if_neg (by decide)]
    · rw [if_neg (by rw [hc]; decide)]
      by_cases e : B 7 i = v
      · rw [if_pos e, show c1 B C v i = true by unfold c1; rw [hc, decide_eq_true e]; rfl, if_pos rfl]
      · rw [if_neg e, show c1 B C v i = false by unfold c1; rw [decide_eq_false e, Bool.and_false], if_neg (by decide)]) mn 0 gk_fuel (some (z + 3), mk C 0 mn, v, 0, 0, me z D t u) (by omega) (by unfold gk_fuel; omega) rfl
  subst h1
  rw [h2]
  simp only [fn_Catalog_withVerb_5_bd, sd_gi_2, hC.2.1, Option.bind_some, if_pos (Int32.le_refl _)]
theorem cs_consuming (h : ST z D rn mn ln P4 P5 P6 B) (hC : CC rn mn ln n P P4 P5 P6 t) (C : Nat → Bool) (x : Int32) : fn_Catalog_consuming (some (z + 3)) (mk C 0 mn) x (me z D t u) = some (mk (c2 B C x) 0 mn, me z D t u) := by
  have h12 := h.2.1
  unfold fn_Catalog_consuming fn_Catalog_consuming_5
  obtain ⟨a', w, h1, h2⟩ := lp_to (body := fun (kk : Option Nat × Int32 × Int32 × Int32 × Int32 × gk_M → Option (Int32 × gk_M)) a => fn_Catalog_consuming_5_bd (fun a0 x1 x2 x3 x4 M => kk (a0, x1, x2, x3, x4, M)) a.1 a.2.1 a.2.2.1 a.2.2.2.1 a.2.2.2.2.1 a.2.2.2.2.2) (fun i st => st = (some (z + 3), mk C 0 mn, x, mk (c2 B C x) 0 i, nI i, me z D t u)) mn (fun i st hi hst => by
    subst hst
    refine ⟨_, rfl, fun kk => ?_⟩
    obtain ⟨o, tr, o1, -, -, -, o8, -⟩ := st_met h hi
    have e5 : gk_al (me z D t u) 4 (some (z + 5)) (nI i) = some (some o) := by rw [sd_al_5 (by omega), hC.2.2.2.2.2.2.1, o1]
    rw [mk_s]
    simp only [fn_Catalog_consuming_5_bd, sd_gi_2, hC.2.1, Option.bind_some, if_neg (nI_ge hi (by omega)), cs_holds, hl_mk0 C hi h12, b2_0, sd_gr_3_1, e5, o8, cs_covers, fn_Catalog_consuming_51, fn_Catalog_consuming_44, nI_1]
    rcases bool_or (C i) with hc | hc
    · rw [if_pos hc, show c2 B C x i = false by unfold c2; rw [hc]; rfl, if_neg (by decide)]
    · rw [if_neg (by rw [hc]; decide)]
      by_cases e : x = 0
      · rw [if_pos e, show c2 B C x i = true by unfold c2; rw [hc, decide_eq_true e]; rfl, if_pos rfl]
      · rw [if_neg e]
        have hc2 : c2 B C x i = cv (B 8 i) x := by unfold c2; rw [hc, decide_eq_false e, Bool.true_and, Bool.false_or]
        rcases bool_or (cv (B 8 i) x) with hv | hv
        · rw [if_pos hv, hc2, hv, if_neg (by decide)]
        · rw [if_neg (by rw [hv]; decide), hc2, hv, if_pos rfl]) mn 0 gk_fuel (some (z + 3), mk C 0 mn, x, 0, 0, me z D t u) (by omega) (by unfold gk_fuel; omega) rfl
  subst h1
  rw [h2]
  simp only [fn_Catalog_consuming_5_bd, sd_gi_2, hC.2.1, Option.bind_some, if_pos (Int32.le_refl _)]
theorem cs_choose96 (h : ST z D rn mn ln P4 P5 P6 B) (hC : CC rn mn ln n P P4 P5 P6 t) (hA : AL na ty qs) (hAC : AC na ty qs t) (C : Nat → Bool) (b : Bool) {r : Int32 × Option (Nat × Int32)} (hr : e3 B ty (fm (vm na ty qs B (fun m => if b = true then rk (B 8 m) else 0) C) mn) = r) : fn_SD_choose_96 (some z) (some z) (mk C 0 mn) (b2 b) (me z D t u) = some (r.1, me z D (match r.2 with | none => t | some p => (upd (upd t.1 14 (nI p.1)) 18 p.2, t.2)) u) := by
  have h12 := h.2.1
  subst hr
  simp only [fn_SD_choose_96, sd_ob_0, Option.bind_some, cs_bestOf h hC hA hAC C b]
  cases hf : fm (vm na ty qs B (fun m => if b = true then rk (B 8 m) else 0) C) mn with
  | none =>
    simp only [oX, if_true, fn_SD_choose_125, e3]
  | some p =>
    obtain ⟨i, i1, i2⟩ := fm_ex hf
    obtain ⟨o, tr, o1, -, -, -, o8, o9, o10, -, -, -, -, -, hm⟩ := st_met h i1
    obtain ⟨q1, q2⟩ := qy_of hm
    have hR2 : (if b = true then rk (B 8 i) else 0) ≤ 2 := by
      split
      · exact rk_le _
      · omega
    obtain ⟨-, v0, -, y, v1, -, v3, v4⟩ := vm_b (R := fun m => if b = true then rk (B 8 m) else 0) hA hR2 q2 i2
    subst v0
    have e5 : gk_al (me z D t u) 4 (some (z + 5)) (nI p.2.1) = some (some o) := by rw [sd_al_5 (by omega), hC.2.2.2.2.2.2.1, o1]
    have h10 := o10 t u
    rw [q1] at h10
    have hbf := cs_bestFor (z := z) (D := D) (u := u) hA hAC (o9 t u) h10 hm.2.2.2.1 q2
    have h4' := hA.1
    have hx : oX id (some (y, p.2.2)) = nI p.2.2 := rfl
    have hx2 : oX (fun p => p.1) (some p) = nI p.2.1 := rfl
    rw [v1, hx] at hbf
    have e12 : gk_il (me z D t u) 0 (some (z + 12)) (nI p.2.2) = some (ty p.2.2) := by rw [sd_il_12 (by omega), (hAC.2 _ v3).1]
    have hac : (cv (B 9 p.2.1) (ty p.2.2) || cv (ty p.2.2) (B 9 p.2.1)) = true := by
      unfold wo ac at v4
      split at v4
      · rename_i hh; rw [Bool.and_eq_true] at hh; exact hh.1
      · cases v4
    obtain ⟨-, -, m3⟩ := mt_c (hA.2 _ v3).1 hm.2.2.2.1 hac
    have ha34 := cs_at34 m3 (me z D t u)
    rw [hx2, if_neg (m1_ne p.2.1 (by omega))]
    simp only [sd_gr_0_1, sd_gr_3_1, Option.bind_some, e5, sd_ob_0, fn_SD_answeredType, sd_gr_0_3, sd_ob_11, hbf, if_neg (m1_ne p.2.2 (by omega)), sd_gr_11_0, e12, o9, cs_meeting, ha34, fn_SD_choose_125, e3]
    by_cases c : at3 (mt (ty p.2.2) (B 9 p.2.1)) = -1
    · simp only [if_pos c]
    · simp only [if_neg c, sd_gr_0_5, Option.bind_some, sd_pf_14, sd_pf_18]
theorem cs_choose (h : ST z D rn mn ln P4 P5 P6 B) (hC : CC rn mn ln n P P4 P5 P6 t) (hA : AL na ty qs) (hAC : AC na ty qs t) (C : Nat → Bool) (v x : Int32) : fn_SD_choose (some z) (mk C 0 mn) v x (me z D t u) = some (if (s3 mn na B ty qs C v x).1 = -1 then 0 else (s3 mn na B ty qs C v x).1, me z D (t3 t (md (av B C mn)) (s3 mn na B ty qs C v x).2) u) := by
  have h12 := h.2.1
  have hCt : CC rn mn ln n P P4 P5 P6 (upd t.1 17 (md (av B C mn)), t.2) := hC.up ⟨by decide, by decide, by decide, by decide⟩
  have hAt : AC na ty qs (upd t.1 17 (md (av B C mn)), t.2) := ⟨(show upd t.1 17 (md (av B C mn)) 5 = t.1 5 from pk_un (by decide)).trans hAC.1, hAC.2⟩
  have h47 : ∀ C' : Nat → Bool, C' = cV mn B C v → fn_SD_choose_47 (some z) v x (mk C' 0 mn) (me z D (upd t.1 17 (md (av B C mn)), t.2) u) = some (if (s3 mn na B ty qs C v x).1 = -1 then 0 else (s3 mn na B ty qs C v x).1, me z D (t3 t (md (av B C mn)) (s3 mn na B ty qs C v x).2) u) := by
    intro C' hC'
    simp only [fn_SD_choose_47, mk_eq0 (show mn ≤ 31 by omega)]
    rcases bool_or (anyb C' mn) with ha | ha
    · have e : s3 mn na B ty qs C v x = (if v = 5 then -1 else 9, none) := by unfold s3; rw [← hC', if_pos ha]
      rw [e, if_pos ha]
      by_cases h5 : v = 5
      · simp only [if_pos h5, if_true, t3]
      · simp only [if_neg h5, if_neg (show ¬ (9 : Int32) = -1 by decide), t3]
    · have ha' : ¬ anyb C' mn = false := by rw [ha]; decide
      rw [if_neg ha']
      simp only [sd_gr_0_1, Option.bind_some, sd_ob_3, cs_consuming h hCt C' x, mk_eq0 (show mn ≤ 31 by omega)]
      rcases bool_or (anyb (c2 B C' x) mn) with hb | hb
      · have e : s3 mn na B ty qs C v x = (11, none) := by unfold s3; rw [← hC', if_neg ha', if_pos hb]
        rw [e, if_pos hb]
        simp only [if_neg (show ¬ (11 : Int32) = -1 by decide), t3]
      · have hb' : ¬ anyb (c2 B C' x) mn = false := by rw [hb]; decide
        have e : s3 mn na B ty qs C v x = e3 B ty (fm (vm na ty qs B (fun m => if (!decide (x = 0)) = true then rk (B 8 m) else 0) (c2 B C' x)) mn) := by unfold s3; rw [← hC', if_neg ha', if_neg hb']
        rw [e, if_neg hb']
        generalize hr : e3 B ty (fm (vm na ty qs B (fun m => if (!decide (x = 0)) = true then rk (B 8 m) else 0) (c2 B C' x)) mn) = r
        have h96 := cs_choose96 (u := u) h hCt hA hAt (c2 B C' x) (!decide (x = 0)) hr
        have hr1 : ¬ r.1 = -1 := by
          rw [← hr]
          unfold e3
          split
          · show ¬ (10 : Int32) = -1; decide
          · split
            · show ¬ (10 : Int32) = -1; decide
            · show ¬ (0 : Int32) = -1; decide
        rw [if_neg hr1]
        by_cases hx : x = 0
        · rw [if_pos hx]
          rw [decide_eq_true hx] at h96
          rw [show (b2 (!true)) = 0 from rfl] at h96
          rw [h96]
          cases r.2 <;> rfl
        · rw [if_neg hx]
          rw [decide_eq_false hx] at h96
          rw [show (b2 (!false)) = 1 from rfl] at h96
          rw [h96]
          cases r.2 <;> rfl
  simp only [fn_SD_choose, sd_gr_0_5, sd_gr_0_1, Option.bind_some, sd_ob_3, cs_verbs h hC C, sd_pf_17, cs_withVerb h hCt C, mk_eq0 (show mn ≤ 31 by omega)]
  rcases bool_or (anyb (c1 B C v) mn) with ha | ha
  · rw [if_pos ha]
    by_cases h4 : v = 4
    · rw [if_pos h4]
      exact h47 (c1 B C 0) (by unfold cV; rw [if_pos ⟨ha, h4⟩])
    · rw [if_neg h4]
      exact h47 (c1 B C v) (by unfold cV; rw [if_neg (fun q => h4 q.2)])
  · rw [if_neg (by rw [ha]; decide)]
    exact h47 (c1 B C v) (by unfold cV; rw [if_neg (fun q => by rw [ha] at q; cases q.1)])
end
