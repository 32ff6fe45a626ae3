/-! stage three, the reference's: its sets -/
def us (u u' : mo_S) : Prop := (∀ k, k ≠ 35 → k ≠ 38 → k ≠ 39 → k ≠ 56 → u'.1 k = u.1 k) ∧ ∀ k, k ≠ 54 → u'.2.2 k = u.2.2 k
theorem us.refl (u : mo_S) : us u u := ⟨fun _ _ _ _ _ => rfl, fun _ _ => rfl⟩
theorem us.trans {u u' u'' : mo_S} (h : us u u') (h' : us u' u'') : us u u'' := ⟨fun k a b c d => (h'.1 k a b c d).trans (h.1 k a b c d), fun k a => (h'.2 k a).trans (h.2 k a)⟩
theorem us54 (u : mo_S) (A : Nat → Int32) : us u (u.1, u.2.1, setA u.2.2 54 A) := ⟨fun _ _ _ _ _ => rfl, fun k h => setA_ne _ _ h⟩
theorem MM.us {rn mn ln n : Nat} {P : Nat → Int32} {B : Nat → Nat → Int32} {u u' : mo_S} (h : MM rn mn ln n P B u) (q : us u u') : MM rn mn ln n P B u' := by
  obtain ⟨h1, h2, h3, h4, h5, h6⟩ := h
  obtain ⟨q1, q3⟩ := q
  refine ⟨(q1 4 (by decide) (by decide) (by decide) (by decide)).trans h1, (q1 5 (by decide) (by decide) (by decide) (by decide)).trans h2, (q1 14 (by decide) (by decide) (by decide) (by decide)).trans h3, (q1 29 (by decide) (by decide) (by decide) (by decide)).trans h4, fun i hi => ?_, fun k hk => (q3 k (by omega)).trans (h6 k hk)⟩
  rw [q3 28 (by decide)]
  exact h5 i hi
def AM (na : Nat) (ty : Nat → Int32) (qs : Nat → Nat) (u : mo_S) : Prop := (u.1 25 = nI na ∧ 0 < na ∧ ∀ k, k < na → u.2.2 26 k = ty k ∧ u.2.2 27 k = nI (qs k)) ∨ (u.1 25 = 0 ∧ na = 1 ∧ ty 0 = 0 ∧ qs 0 = 1000)
theorem AM.us {na : Nat} {ty : Nat → Int32} {qs : Nat → Nat} {u u' : mo_S} (h : AM na ty qs u) (q : us u u') : AM na ty qs u' := by
  obtain ⟨q1, q3⟩ := q
  unfold AM
  rw [q1 25 (by decide) (by decide) (by decide) (by decide), q3 26 (by decide), q3 27 (by decide)]
  exact h
theorem is54 {z : Nat} {D : gk_M} {t : sd_S} (u : mo_S) (A : Nat → Int32) {i : Nat} (hi : i < 12) (b : Bool) : gk_is (me z D t (u.1, u.2.1, setA u.2.2 54 A)) 2 .boolean (some (z + 60)) (nI i) (b2 b) = some (me z D t (u.1, u.2.1, setA u.2.2 54 (upd A i (b2 b)))) := by
  rw [mo_is_54 hi]
  simp only [setA_up]
  cases b <;> rfl
theorem il54 {z : Nat} {D : gk_M} {t : sd_S} (u : mo_S) (A : Nat → Int32) {i : Nat} (hi : i < 12) : gk_il (me z D t (u.1, u.2.1, setA u.2.2 54 A)) 2 (some (z + 60)) (nI i) = some (A i) := by
  rw [mo_il_54 hi]
  simp only [setA_self]
/-- half of a set is new -/
def hf (mn i : Nat) (C C' : Nat → Bool) (A : Nat → Int32) : Prop := ∀ m, m < mn → A m = b2 (if m < i then C' m else C m)
theorem hf_0 {mn : Nat} {C C' : Nat → Bool} {A : Nat → Int32} (h : ∀ m, m < mn → A m = b2 (C m)) : hf mn 0 C C' A := fun m hm => by rw [if_neg (by omega)]; exact h m hm
theorem hf_n {mn : Nat} {C C' : Nat → Bool} {A : Nat → Int32} (h : hf mn mn C C' A) : ∀ m, m < mn → A m = b2 (C' m) := fun m hm => by rw [h m hm, if_pos hm]
theorem hf_s {mn i : Nat} {C C' : Nat → Bool} {A : Nat → Int32} (h : hf mn i C C' A) : hf mn (i + 1) C C' (upd A i (b2 (C' i))) := fun m hm => by
  by_cases e : m = i
  · subst e; rw [pk_us, if_pos (by omega)]
  · rw [pk_un e, h m hm]
    by_cases c : m < i
    · rw [if_pos c, if_pos (by omega)]
    · rw [if_neg c, if_neg (by omega)]
theorem hf_i {mn i : Nat} {C C' : Nat → Bool} {A : Nat → Int32} (h : hf mn i C C' A) (hi : i < mn) : A i = b2 (C i) := by rw [h i hi, if_neg (by omega)]
section
variable {z : Nat} {D : gk_M} {rn mn ln n na : Nat} {P : Nat → Int32} {B : Nat → Nat → Int32} {t : sd_S} {u : mo_S} {ty : Nat → Int32} {qs : Nat → Nat} {C : Nat → Bool}
theorem ms_any (h5 : u.1 5 = nI mn) (h12 : mn ≤ 12) (hC : ∀ m, m < mn → u.2.2 54 m = b2 (C m)) : fn_Mo_any (some (z + 27)) (me z D t u) = some (b2 (anyb C mn), me z D t u) := by
  unfold fn_Mo_any fn_Mo_any_4
  obtain ⟨a', w, h1, h2⟩ := lp_to (body := fun (kk : Option Nat × Int32 × Int32 × gk_M → Option (Int32 × gk_M)) a => fn_Mo_any_4_bd (fun a0 x1 x2 M => kk (a0, x1, x2, M)) a.1 a.2.1 a.2.2.1 a.2.2.2) (fun i st => st = (some (z + 27), b2 (anyb C i), nI i, me z D t u)) mn (fun i st hi hst => by
    subst hst
    refine ⟨_, rfl, fun kk => ?_⟩
    have e : gk_il (me z D t u) 2 (some (z + 60)) (nI i) = some (b2 (C i)) := by rw [mo_il_54 (by omega), hC i hi]
    simp only [fn_Mo_any_4_bd, mo_gi_5, h5, Option.bind_some, if_neg (nI_ge hi (by omega)), b2_0, mo_gr_54, e, fn_Mo_any_30, fn_Mo_any_25, nI_1, anyb]
    rcases bool_or (anyb C i) with ha | ha
    · rw [if_pos ha, ha, Bool.false_or]
      rcases bool_or (C i) with hc | hc
      · rw [if_pos hc, hc]; rfl
      · rw [if_neg (by rw [hc]; decide), hc]; rfl
    · rw [if_neg (by rw [ha]; decide), ha, Bool.true_or]; rfl) mn 0 gk_fuel (some (z + 27), 0, 0, me z D t u) (by omega) (by unfold gk_fuel; omega) rfl
  subst h1
  rw [h2]
  simp only [fn_Mo_any_4_bd, mo_gi_5, h5, Option.bind_some, if_pos (Int32.le_refl _), b2_z]
def cO (f : Bool) (B : Nat → Nat → Int32) (C : Nat → Bool) (v : Int32) (m : Nat) : Bool := C m && (!f || decide (B 7 m = v))
theorem cO_t (v : Int32) : cO true B C v = c1 B C v := by funext m; unfold cO c1; rfl
theorem cO_f (v : Int32) : cO false B C v = C := by funext m; unfold cO; rw [Bool.not_false, Bool.true_or, Bool.and_true]
theorem ms_only (h5 : u.1 5 = nI mn) (h12 : mn ≤ 12) (h7 : u.2.2 7 = B 7) (hC : ∀ m, m < mn → u.2.2 54 m = b2 (C m)) (v : Int32) : ∃ A : Nat → Int32, fn_Mo_only (some (z + 27)) v (me z D t u) = some (b2 (anyb (c1 B C v) mn), me z D t (u.1, u.2.1, setA u.2.2 54 A)) ∧ ∀ m, m < mn → A m = b2 (cO (anyb (c1 B C v) mn) B C v m) := by
  unfold fn_Mo_only fn_Mo_only_4
  obtain ⟨a', w, h1, h2⟩ := lp_to (body := fun (kk : Option Nat × Int32 × Int32 × Int32 × gk_M → Option (Int32 × gk_M)) a => fn_Mo_only_4_bd (fun a0 x1 x2 x3 M => kk (a0, x1, x2, x3, M)) a.1 a.2.1 a.2.2.1 a.2.2.2.1 a.2.2.2.2) (fun i st => st = (some (z + 27), v, b2 (anyb (c1 B C v) i), nI i, me z D t u)) mn (fun i st hi hst => by
    subst hst
    refine ⟨_, rfl, fun kk => ?_⟩
    have e : gk_il (me z D t u) 2 (some (z + 60)) (nI i) = some (b2 (C i)) := by rw [mo_il_54 (by omega), hC i hi]
    have e7 : gk_il (me z D t u) 0 (some (z + 32)) (nI i) = some (B 7 i) := by rw [mo_il_7 (by omega), h7]
    simp only [fn_Mo_only_4_bd, mo_gi_5, h5, Option.bind_some, if_neg (nI_ge hi (by omega)), b2_0, mo_gr_54, e, mo_gr_7, e7, fn_Mo_only_40, fn_Mo_only_35, fn_Mo_only_39, nI_1, anyb]
    rcases bool_or (anyb (c1 B C v) i) with ha | ha
    · rw [if_pos ha, ha, Bool.false_or]
      unfold c1
      rcases bool_or (C i) with hc | hc
      · rw [if_pos hc, hc]; rfl
      · rw [if_neg (by rw [hc]; decide), hc, Bool.true_and]
        by_cases e : B 7 i = v
        · rw [if_pos e, decide_eq_true e]; rfl
        · rw [if_neg e, decide_eq_false e]; rfl
    · rw [if_neg (by rw [ha]; decide), ha, Bool.true_or]; rfl) mn 0 gk_fuel (some (z + 27), v, 0, 0, me z D t u) (by omega) (by unfold gk_fuel; omega) rfl
  subst h1
  rw [h2]
  simp only [fn_Mo_only_4_bd, mo_gi_5, h5, Option.bind_some, if_pos (Int32.le_refl _)]
  unfold fn_Mo_only_49
  generalize anyb (c1 B C v) mn = f
  obtain ⟨b', w', h3, h4⟩ := lp_to (body := fun (kk : Option Nat × Int32 × Int32 × Int32 × gk_M → Option (Int32 × gk_M)) a => fn_Mo_only_49_bd (fun a0 x1 x2 x3 M => kk (a0, x1, x2, x3, M)) a.1 a.2.1 a.2.2.1 a.2.2.2.1 a.2.2.2.2) (fun i st => ∃ A, st = (some (z + 27), v, b2 f, nI i, me z D t (u.1, u.2.1, setA u.2.2 54 A)) ∧ hf mn i C (cO f B C v) A) mn (fun i st hi hst => by
    obtain ⟨A, rfl, hA⟩ := hst
    refine ⟨_, ⟨_, rfl, hf_s hA⟩, fun kk => ?_⟩
    have e := il54 (z := z) (D := D) (t := t) u A (i := i) (by omega)
    rw [hf_i hA hi] at e
    have e7 : gk_il (me z D t (u.1, u.2.1, setA u.2.2 54 A)) 0 (some (z + 32)) (nI i) = some (B 7 i) := by
      rw [mo_il_7 (by omega)]
      exact congrArg some (congrFun ((setA_ne (i := 54) (a := 7) u.2.2 A (by decide)).trans h7) i)
    have hs := is54 (z := z) (D := D) (t := t) u A (i := i) (by omega)
    have hsT := hs true
    have hsF := hs false
    rw [b2_t] at hsT
    rw [b2_f] at hsF
    simp only [fn_Mo_only_49_bd, mo_gi_5, h5, Option.bind_some, if_neg (nI_ge hi (by omega)), b2_0, mo_gr_54, e, mo_gr_7, e7, fn_Mo_only_89, fn_Mo_only_85, fn_Mo_only_90, hsT, hsF, nI_1]
    unfold cO
    rcases bool_or (C i) with hc | hc
    · rw [if_pos hc, hc, Bool.false_and, b2_f]
    · rw [if_neg (by rw [hc]; decide), hc, Bool.true_and]
      rcases bool_or f with hf' | hf'
      · rw [if_pos hf', hf', Bool.not_false, Bool.true_or, b2_t]
      · rw [if_neg (by rw [hf']; decide), hf', Bool.not_true, Bool.false_or]
        by_cases e : B 7 i = v
        · rw [if_pos e, decide_eq_true e, b2_t]
        · rw [if_neg e, decide_eq_false e, b2_f]) mn 0 gk_fuel (some (z + 27), v, b2 f, 0, me z D t u) (by omega) (by unfold gk_fuel; omega) ⟨u.2.2 54, by rw [setA_id]; rfl, hf_0 hC⟩
  obtain ⟨A, rfl, hA⟩ := h3
  refine ⟨A, ?_, hf_n hA⟩
  rw [h4]
  simp only [fn_Mo_only_49_bd, mo_gi_5, h5, Option.bind_some, if_pos (Int32.le_refl _), b2_z]
theorem cv_0 (p : Int32) : cv 0 p = true := by
  unfold cv
  rw [decide_eq_true (show (0 : Int32) = 0 from rfl), Bool.true_or]
theorem ms_accepted (hM : MM rn mn ln n P B u) (h12 : mn ≤ 12) (hA : AL na ty qs) (hAM : AM na ty qs u) {m : Nat} (hm : m < mn) (hp : isTy (B 9 m) = true) : fn_Mo_accepted (some (z + 27)) (nI m) (me z D t u) = some (b2 (anyb (fun k => ac (ty k) (qs k) (B 9 m)) na), me z D t u) := by
  have h4 := hA.1
  have e9 : gk_il (me z D t u) 0 (some (z + 34)) (nI m) = some (B 9 m) := by rw [mo_il_9 (by omega), hM.2.2.2.2.2 9 (by decide)]
  rcases hAM with ⟨c1, c2, c3⟩ | ⟨c1, c2, c3, c4⟩
  · simp only [fn_Mo_accepted, mo_gi_25, c1, Option.bind_some, if_neg (nI_ne0 c2 (by omega)), fn_Mo_accepted_12]
    unfold fn_Mo_accepted_15
    obtain ⟨a', w, h1, h2⟩ := lp_to (body := fun (kk : Option Nat × Int32 × Int32 × Int32 × gk_M → Option (Int32 × gk_M)) a => fn_Mo_accepted_15_bd (fun a0 x1 x2 x3 M => kk (a0, x1, x2, x3, M)) a.1 a.2.1 a.2.2.1 a.2.2.2.1 a.2.2.2.2) (fun i st => st = (some (z + 27), nI m, b2 (anyb (fun k => ac (ty k) (qs k) (B 9 m)) i), nI i, me z D t u)) na (fun i st hi hst => by
      subst hst
      refine ⟨_, rfl, fun kk => ?_⟩
      obtain ⟨a1, a2⟩ := hA.2 i hi
      have e26 : gk_il (me z D t u) 0 (some (z + 48)) (nI i) = some (ty i) := by rw [mo_il_26 (by omega), (c3 i hi).1]
      have e27 : gk_il (me z D t u) 0 (some (z + 49)) (nI i) = some (nI (qs i)) := by rw [mo_il_27 (by omega), (c3 i hi).2]
      simp only [fn_Mo_accepted_15_bd, mo_gi_25, c1, Option.bind_some, if_neg (nI_ge hi (by omega)), b2_0, mo_gr_27, e27, mo_gr_9, e9, mo_gr_26, e26, ms_meet hp a1, fn_Mo_accepted_59, fn_Mo_accepted_58, fn_Mo_accepted_54, nI_1, anyb]
      rcases bool_or (anyb (fun k => ac (ty k) (qs k) (B 9 m)) i) with ha | ha
      · rw [if_pos ha, ha, Bool.false_or]
        unfold ac
        by_cases hq : 0 < qs i
        · rw [if_neg (nI_nle hq (by omega)), decide_eq_true hq, Bool.and_true]
          rcases bool_or (cv (B 9 m) (ty i) || cv (ty i) (B 9 m)) with hc | hc
          · rw [if_pos hc, hc]; rfl
          · rw [if_neg (by rw [hc]; decide), hc]; rfl
        · have hq0 : qs i = 0 := by omega
          rw [hq0, if_pos (by decide), decide_eq_false (by omega), Bool.and_false]; rfl
      · rw [if_neg (by rw [ha]; decide), ha, Bool.true_or]; rfl) na 0 gk_fuel (some (z + 27), nI m, 0, 0, me z D t u) (by omega) (by unfold gk_fuel; omega) rfl
    subst h1
    rw [h2]
    simp only [fn_Mo_accepted_15_bd, mo_gi_25, c1, Option.bind_some, if_pos (Int32.le_refl _), b2_z]
  · subst c2
    have hc : ac (ty 0) (qs 0) (B 9 m) = true := by
      unfold ac
      rw [c3, c4, decide_eq_true (by omega), Bool.and_true, cv_0, Bool.or_true]
    have ha : anyb (fun k => ac (ty k) (qs k) (B 9 m)) 1 = true := by
      show (false || ac (ty 0) (qs 0) (B 9 m)) = true
      rw [hc]; rfl
    rw [ha]
    have e25 : gk_gi (me z D t u) 12 25 (some (z + 27)) = some 0 := by rw [mo_gi_25, c1]
    unfold fn_Mo_accepted
    rw [e25, Option.bind_some, if_pos rfl]
    unfold fn_Mo_accepted_12 fn_Mo_accepted_15
    obtain ⟨F, hF⟩ : ∃ F, gk_fuel = F + 1 := ⟨4095, rfl⟩
    rw [hF, gk_loop_s]
    unfold fn_Mo_accepted_15_bd
    simp only [e25, Option.bind_some]
    rw [if_pos (Int32.le_refl _), ev_z1]
    rfl
end
