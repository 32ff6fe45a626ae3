/-! stage three, the dispatcher's -/
def dfr (a b : Nat) : Nat := (a - b) + (b - a)
def wN (ty : Int32) (q : Nat) (p : Int32) (ql : Nat) : Nat := ((rk (mt ty p) * 1001 + q) * 1001 + ql) * 3 + (2 - dfr (rk ty) (rk p))
def ac (ty : Int32) (q : Nat) (p : Int32) : Bool := (cv p ty || cv ty p) && decide (0 < q)
def wo (ty : Nat → Int32) (qs : Nat → Nat) (p : Int32) (ql : Nat) (k : Nat) : Option (Nat × Nat) := if ac (ty k) (qs k) p = true then some (wN (ty k) (qs k) p ql, k) else none
def oW {α : Type} (r : Option (Nat × α)) : Int32 := match r with
  | none => -1
  | some p => nI p.1
def oX {α : Type} (g : α → Nat) (r : Option (Nat × α)) : Int32 := match r with
  | none => -1
  | some p => nI (g p.2)
theorem wi_n {x M : Int32} {n : Nat} (hM : M.toInt = n) (hn : n < 2 ^ 31) (h : wi x 0 M = true) : x = nI x.toNatClampNeg ∧ x.toNatClampNeg ≤ n := by
  rw [wi_t] at h
  obtain ⟨j, hj, rfl⟩ := nI_of2 hM (x := x) (by rw [i_nlt]; exact h.1) h.2
  rw [nI_clamp (by omega)]
  exact ⟨rfl, hj⟩
theorem wN_lt {ty p : Int32} {q ql : Nat} (hq : q ≤ 1000) (hl : ql ≤ 1000) : wN ty q p ql < 9018009 := by
  unfold wN
  have := rk_le (mt ty p)
  omega
theorem wo_b {ty : Nat → Int32} {qs : Nat → Nat} {p : Int32} {ql k : Nat} (hq : qs k ≤ 1000) (hl : ql ≤ 1000) {y : Nat × Nat} (h : wo ty qs p ql k = some y) : y.1 < 9018009 ∧ y.2 = k := by
  unfold wo at h
  split at h
  · cases h
    exact ⟨wN_lt hq hl, rfl⟩
  · cases h
theorem abs_d {a b : Nat} (ha : a ≤ 2) (hb : b ≤ 2) : (2 : Int32) - (if 0 ≤ (nI a - nI b) then (nI a - nI b) else 0 - (nI a - nI b)) = nI (2 - dfr a b) := by
  have key : ∀ a, a < 3 → ∀ b, b < 3 → (2 : Int32) - (if 0 ≤ (nI a - nI b) then (nI a - nI b) else 0 - (nI a - nI b)) = nI (2 - dfr a b) := by decide +kernel
  exact key a (by omega) b (by omega)
theorem m1_le (n : Nat) (h : n < 2 ^ 31) : (-1 : Int32) ≤ nI n := by
  rw [Int32.le_iff_toInt_le, nI_toInt h, show (-1 : Int32).toInt = -1 by decide]; omega
theorem m1_nge (n : Nat) (h : n < 2 ^ 31) : ¬ nI n ≤ (-1 : Int32) := by
  rw [Int32.le_iff_toInt_le, nI_toInt h, show (-1 : Int32).toInt = -1 by decide]; omega
theorem m1_ne (n : Nat) (h : n < 2 ^ 31) : ¬ nI n = (-1 : Int32) := by
  rw [← Int32.toInt_inj, nI_toInt h, show (-1 : Int32).toInt = -1 by decide]; omega
theorem fs_le {α : Type} {r x : Option (Nat × α)} (hx : ∀ p, x = some p → p.1 < 2 ^ 31) (hr : ∀ p, r = some p → p.1 < 2 ^ 31) : (oW x ≤ oW r ∧ fs r x = r) ∨ (¬ oW x ≤ oW r ∧ ∃ p, x = some p ∧ fs r x = some p) := by
  cases x with
  | none =>
    left
    refine ⟨?_, rfl⟩
    cases r with
    | none => exact Int32.le_refl _
    | some b => exact m1_le _ (hr b rfl)
  | some a =>
    cases r with
    | none => exact Or.inr ⟨m1_nge _ (hx a rfl), a, rfl, rfl⟩
    | some b =>
      have h1 := hx a rfl
      have h2 := hr b rfl
      by_cases h : b.1 < a.1
      · right
        refine ⟨nI_ge h h1, a, rfl, ?_⟩
        simp only [fs, if_pos h]
      · left
        refine ⟨nI_le (by omega) h2, ?_⟩
        simp only [fs, if_neg h]
theorem fm_b {α : Type} {w : Nat → Option (Nat × α)} {N k : Nat} (h : ∀ i, i < k → ∀ p, w i = some p → p.1 < N) : ∀ p, fm w k = some p → p.1 < N := by
  intro p hp
  obtain ⟨i, h1, h2⟩ := fm_ex hp
  exact h i h1 p h2
/-- what is accepted -/
def AL (na : Nat) (ty : Nat → Int32) (qs : Nat → Nat) : Prop := na ≤ 4 ∧ ∀ k, k < na → isTy (ty k) = true ∧ qs k ≤ 1000
def AC (na : Nat) (ty : Nat → Int32) (qs : Nat → Nat) (t : sd_S) : Prop := t.1 5 = nI na ∧ ∀ k, k < na → t.2.1 12 k = ty k ∧ t.2.1 13 k = nI (qs k)
def qy (B : Nat → Nat → Int32) (m : Nat) : Nat := (B 10 m).toNatClampNeg
def vm (na : Nat) (ty : Nat → Int32) (qs : Nat → Nat) (B : Nat → Nat → Int32) (R : Nat → Nat) (C : Nat → Bool) (m : Nat) : Option (Nat × (Nat × Nat)) := if C m = true then (fm (wo ty qs (B 9 m) (qy B m)) na).map (fun p => (R m * 9018009 + p.1, (m, p.2))) else none
theorem qy_of {rn : Nat} {B : Nat → Nat → Int32} {m : Nat} (h : mrg rn B m) : B 10 m = nI (qy B m) ∧ qy B m ≤ 1000 := wi_n (by decide) (by omega) h.2.2.2.2.1
section
variable {z : Nat} {D : gk_M} {rn mn ln n na : Nat} {P : Nat → Int32} {P4 P5 P6 : Nat → Option Nat} {B : Nat → Nat → Int32} {t : sd_S} {u : mo_S} {ty : Nat → Int32} {qs : Nat → Nat}
theorem cs_worth (hA : AL na ty qs) (hC : AC na ty qs t) {o : Nat} {p : Int32} {l : Nat} (h4 : gk_gi (me z D t u) 4 4 (some o) = some p) (h5 : gk_gi (me z D t u) 4 5 (some o) = some (nI l)) (hp : isTy p = true) {k : Nat} (hk : k < na) : fn_Accepted_worth (some (z + 11)) (nI k) (some o) (me z D t u) = some (oW (wo ty qs p l k), me z D t u) := by
  have h4' := hA.1
  obtain ⟨a1, a2⟩ := hA.2 k hk
  obtain ⟨c1, c2⟩ := hC.2 k hk
  have e12 : gk_il (me z D t u) 0 (some (z + 12)) (nI k) = some (ty k) := by rw [sd_il_12 (by omega), c1]
  have e13 : gk_il (me z D t u) 0 (some (z + 13)) (nI k) = some (nI (qs k)) := by rw [sd_il_13 (by omega), c2]
  simp only [fn_Accepted_worth, sd_gr_11_0, sd_gr_11_1, Option.bind_some, e12, e13, h4, h5, cs_meeting, cs_rank, abs_d (rk_le _) (rk_le _)]
  unfold wo ac
  rcases bool_or (cv p (ty k) || cv (ty k) p) with h | h
  · rw [if_pos (mt_n h), h, Bool.false_and, if_neg (by decide)]
    rfl
  · obtain ⟨-, m2, -⟩ := mt_c a1 hp h
    rw [if_neg m2, h, Bool.true_and]
    by_cases hq : 0 < qs k
    · rw [if_neg (nI_ne0 hq (by omega)), decide_eq_true hq, if_pos rfl]
      simp only [oW, wN]
      rw [show (1001 : Int32) = nI 1001 from rfl, show (3 : Int32) = nI 3 from rfl, nI_mul, nI_add, nI_mul, nI_add, nI_mul, nI_add]
    · have : qs k = 0 := by omega
      rw [this, if_pos nI_0, decide_eq_false (by omega), if_neg (by decide)]
      rfl
theorem cs_bestFor (hA : AL na ty qs) (hC : AC na ty qs t) {o : Nat} {p : Int32} {l : Nat} (h4 : gk_gi (me z D t u) 4 4 (some o) = some p) (h5 : gk_gi (me z D t u) 4 5 (some o) = some (nI l)) (hp : isTy p = true) (hl : l ≤ 1000) : fn_Accepted_bestFor (some (z + 11)) (some o) (me z D t u) = some (oX id (fm (wo ty qs p l) na), me z D t u) := by
  have h4' := hA.1
  unfold fn_Accepted_bestFor fn_Accepted_bestFor_7
  obtain ⟨a', w, h1, h2⟩ := lp_to (body := fun (kk : Option Nat × Option Nat × Int32 × Int32 × Int32 × gk_M → Option (Int32 × gk_M)) a => fn_Accepted_bestFor_7_bd (fun a0 a1 x2 x3 x4 M => kk (a0, a1, x2, x3, x4, M)) a.1 a.2.1 a.2.2.1 a.2.2.2.1 a.2.2.2.2.1 a.2.2.2.2.2) (fun i st => st = (some (z + 11), some o, oX id (fm (wo ty qs p l) i), oW (fm (wo ty qs p l) i), nI i, me z D t u)) na (fun i st hi hst => by
    subst hst
    refine ⟨_, rfl, fun kk => ?_⟩
    have hb : ∀ j, j < na → ∀ q, wo ty qs p l j = some q → q.1 < 2 ^ 31 := fun j hj q hq => by
      have := (wo_b (hA.2 j hj).2 hl hq).1
      omega
    simp only [fn_Accepted_bestFor_7_bd, sd_gi_5, hC.1, Option.bind_some, if_neg (nI_ge hi (by omega)), sd_ob_11, cs_worth hA hC h4 h5 hp hi, fn_Accepted_bestFor_37, nI_1, fm]
    rcases fs_le (x := wo ty qs p l i) (r := fm (wo ty qs p l) i) (hb i hi) (fm_b (fun j hj => hb j (by omega))) with ⟨f1, f2⟩ | ⟨f1, q, f2, f3⟩
    · rw [if_pos f1, f2]
    · rw [if_neg f1, f3, f2]
      have := (wo_b (hA.2 i hi).2 hl f2).2
      simp only [oX, oW, id, this]) na 0 gk_fuel (some (z + 11), some o, -1, -1, 0, me z D t u) (by omega) (by unfold gk_fuel; omega) rfl
  subst h1
  rw [h2]
  simp only [fn_Accepted_bestFor_7_bd, sd_gi_5, hC.1, Option.bind_some, if_pos (Int32.le_refl _)]
theorem vm_b (hA : AL na ty qs) {R : Nat → Nat} {C : Nat → Bool} {m : Nat} (hR : R m ≤ 2) (hl : qy B m ≤ 1000) {q : Nat × (Nat × Nat)} (h : vm na ty qs B R C m = some q) : q.1 < 27054027 ∧ q.2.1 = m ∧ C m = true ∧ ∃ y, fm (wo ty qs (B 9 m) (qy B m)) na = some (y, q.2.2) ∧ q.1 = R m * 9018009 + y ∧ q.2.2 < na ∧ wo ty qs (B 9 m) (qy B m) q.2.2 = some (y, q.2.2) := by
  unfold vm at h
  split at h
  · rename_i hc
    cases hf : fm (wo ty qs (B 9 m) (qy B m)) na with
    | none => rw [hf] at h; cases h
    | some y =>
      rw [hf] at h
      cases h
      obtain ⟨i, i1, i2⟩ := fm_ex hf
      obtain ⟨b1, b2⟩ := wo_b (hA.2 i i1).2 hl i2
      refine ⟨?_, rfl, hc, y.1, rfl, rfl, by show y.2 < na; omega, ?_⟩
      · show R m * 9018009 + y.1 < 27054027
        have : R m * 9018009 ≤ 2 * 9018009 := Nat.mul_le_mul_right _ hR
        omega
      · show wo ty qs (B 9 m) (qy B m) y.2 = some (y.1, y.2)
        rw [b2]
        rw [i2, ← b2]
  · cases h
theorem cs_bestOf (h : ST z D rn mn ln P4 P5 P6 B) (hC : CC rn mn ln n P P4 P5 P6 t) (hA : AL na ty qs) (hAC : AC na ty qs t) (C : Nat → Bool) (b : Bool) : fn_SD_bestOf (some z) (mk C 0 mn) (b2 b) (me z D t u) = some (oX (fun p => p.1) (fm (vm na ty qs B (fun m => if b = true then rk (B 8 m) else 0) C) mn), me z D t u) := by
  have h12 := h.2.1
  generalize hR : (fun m => if b = true then rk (B 8 m) else 0) = R
  have hR2 : ∀ m, R m ≤ 2 := fun m => by
    rw [← hR]
    show (if b = true then rk (B 8 m) else 0) ≤ 2
    split
    · exact rk_le _
    · omega
  unfold fn_SD_bestOf fn_SD_bestOf_8
  obtain ⟨a', w, h1, h2⟩ := lp_to (body := fun (kk : Option Nat × Int32 × Int32 × Int32 × Int32 × Int32 × gk_M → Option (Int32 × gk_M)) a => fn_SD_bestOf_8_bd (fun a0 x1 x2 x3 x4 x5 M => kk (a0, x1, x2, x3, x4, x5, M)) a.1 a.2.1 a.2.2.1 a.2.2.2.1 a.2.2.2.2.1 a.2.2.2.2.2.1 a.2.2.2.2.2.2) (fun i st => st = (some z, mk C 0 mn, b2 b, oX (fun p => p.1) (fm (vm na ty qs B R C) i), oW (fm (vm na ty qs B R C) i), nI i, me z D t u)) mn (fun i st hi hst => by
    subst hst
    refine ⟨_, rfl, fun kk => ?_⟩
    obtain ⟨o, tr, o1, -, -, -, o8, o9, o10, -, -, -, -, -, hm⟩ := st_met h hi
    obtain ⟨q1, q2⟩ := qy_of hm
    have e5 : gk_al (me z D t u) 4 (some (z + 5)) (nI i) = some (some o) := by rw [sd_al_5 (by omega), hC.2.2.2.2.2.2.1, o1]
    have hhl : hl (mk C 0 mn) i = C i := by
      rw [hl_mk C 0 mn (by omega) i (by omega), decide_eq_true (show 0 ≤ i ∧ i < 0 + mn by omega), Bool.true_and]
    have h10 := o10 t u
    rw [q1] at h10
    have hbf := cs_bestFor (z := z) (D := D) (u := u) hA hAC (o9 t u) h10 hm.2.2.2.1 q2
    have hb : ∀ j, j < mn → ∀ q, vm na ty qs B R C j = some q → q.1 < 2 ^ 31 := fun j hj q hq => by
      obtain ⟨o', tr', -, -, -, -, -, -, -, -, -, -, -, -, hm'⟩ := st_met h hj
      have := (vm_b hA (hR2 j) (qy_of hm').2 hq).1
      omega
    simp only [fn_SD_bestOf_8_bd, sd_gr_0_1, sd_gi_2, hC.2.1, Option.bind_some, if_neg (nI_ge hi (by omega)), sd_gr_3_1, e5, cs_holds, hhl, b2_0, sd_gr_0_3, sd_ob_11, hbf, fm]
    rcases bool_or (C i) with hc | hc
    · have hv : vm na ty qs B R C i = none := by unfold vm; rw [hc, if_neg (by decide)]
      rw [if_pos hc, hv, fs_n]
      simp only [fn_SD_bestOf_54, if_true, fn_SD_bestOf_114, nI_1]
    · rw [if_neg (by rw [hc]; decide)]
      cases hf : fm (wo ty qs (B 9 i) (qy B i)) na with
      | none =>
        have hv : vm na ty qs B R C i = none := by unfold vm; rw [hc, if_pos rfl, hf]; rfl
        rw [hv, fs_n]
        simp only [oX, fn_SD_bestOf_54, if_true, fn_SD_bestOf_114, nI_1]
      | some y =>
        have hv : vm na ty qs B R C i = some (R i * 9018009 + y.1, (i, y.2)) := by unfold vm; rw [hc, if_pos rfl, hf]; rfl
        obtain ⟨-, -, -, y', v1, v2, v3, v4⟩ := vm_b hA (hR2 i) q2 hv
        have hyy : y' = y.1 := by
          have v2 : R i * 9018009 + y.1 = R i * 9018009 + y' := v2
          omega
        subst hyy
        have v3 : y.2 < na := v3
        have h4' := hA.1
        have hw := cs_worth (z := z) (D := D) (u := u) hA hAC (o9 t u) h10 hm.2.2.2.1 v3
        rw [v4] at hw
        have hx : oX id (some y) = nI y.2 := rfl
        have hwW : oW (some (y.1, y.2)) = nI y.1 := rfl
        rw [hx]
        have h78 : ∀ s, s = nI (R i) → fn_SD_bestOf_78 (fun a0 x1 x2 x3 x4 x5 M => kk (a0, x1, x2, x3, x4, x5, M)) (some z) (mk C 0 mn) (b2 b) (oX (fun p => p.1) (fm (vm na ty qs B R C) i)) (oW (fm (vm na ty qs B R C) i)) (nI i) (some o) (nI y.2) s (me z D t u) = kk (some z, mk C 0 mn, b2 b, oX (fun p => p.1) (fs (fm (vm na ty qs B R C) i) (vm na ty qs B R C i)), oW (fs (fm (vm na ty qs B R C) i) (vm na ty qs B R C i)), nI (i + 1), me z D t u) := fun s hs => by
          subst hs
          have hmul : nI (R i) * 9018009 + nI y.1 = oW (vm na ty qs B R C i) := by
            rw [hv]
            show nI (R i) * nI 9018009 + nI y.1 = nI (R i * 9018009 + y.1)
            rw [nI_mul, nI_add]
          simp only [fn_SD_bestOf_78, sd_gr_0_3, Option.bind_some, sd_ob_11, hw, hwW, hmul, fn_SD_bestOf_114, nI_1]
          rcases fs_le (x := vm na ty qs B R C i) (r := fm (vm na ty qs B R C) i) (hb i hi) (fm_b (fun j hj => hb j (by omega))) with ⟨f1, f2⟩ | ⟨f1, q, f2, f3⟩
          · rw [if_pos f1, f2]
          · rw [if_neg f1, f3, f2]
            rw [hv] at f2
            cases f2
            rfl
        simp only [fn_SD_bestOf_54, if_neg (m1_ne y.2 (by omega)), b2_0, o8, Option.bind_some, cs_rank]
        rcases bool_or b with hb' | hb'
        · rw [if_pos hb']
          exact h78 0 (by rw [← hR]; show (0 : Int32) = nI (if b = true then rk (B 8 i) else 0); rw [hb', if_neg (by decide)]; rfl)
        · rw [if_neg (by rw [hb']; decide)]
          exact h78 _ (by rw [← hR]; show nI (rk (B 8 i)) = nI (if b = true then rk (B 8 i) else 0); rw [hb', if_pos rfl])) mn 0 gk_fuel (some z, mk C 0 mn, b2 b, -1, -1, 0, me z D t u) (by omega) (by unfold gk_fuel; omega) rfl
  subst h1
  rw [h2]
  simp only [fn_SD_bestOf_8_bd, sd_gr_0_1, sd_gi_2, hC.2.1, Option.bind_some, if_pos (Int32.le_refl _)]
end
