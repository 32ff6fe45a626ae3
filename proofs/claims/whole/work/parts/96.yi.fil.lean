/-! filters that run: the reference's -/
def fa_run (k52 : Option Nat → Int32 → Int32 → gk_M → Option (gk_M)) (a0 : Option Nat) (x1 : Int32) (x3 : Int32) (x4 : Int32) (M : gk_M) : Option (gk_M) := (gk_gr M 12 23 a0).bind fun v176 => (gk_is M 2 .boolean v176 x4 1).bind fun M182 => (gk_gr M182 12 46 a0).bind fun v184 => (gk_gi M182 12 45 a0).bind fun v188 => (gk_is M182 0 .int v184 v188 x4).bind fun M193 => (gk_gi M193 12 45 a0).bind fun v196 => (gk_pf M193 12 45 a0 (.int (v196 + (1 : Int32)))).bind fun M201 => if (2 : Int32) ≤ x1 then (fn_Mo_filterAll_234 k52 a0 x1 x3 M201) else ((gk_gr M201 12 21 a0).bind fun v210 => (gk_il M201 0 v210 x4).bind fun v215 => (gk_gi M201 12 31 a0).bind fun v217 => if v215 = v217 then ((gk_gr M201 12 22 a0).bind fun v225 => (gk_il M201 0 v225 x4).bind fun v230 => (gk_ob M201 12 a0).bind fun _ => (fn_Mo_meetHeader a0 v230 M201).bind fun w231 => fn_Mo_filterAll_234 k52 a0 x1 x3 w231) else (fn_Mo_filterAll_234 k52 a0 x1 x3 M201))
def pkc (U : Nat → Bool) (q : Nat → Int) : Nat → Option Nat
  | 0 => none
  | k + 1 => match pkc U q k with
    | none => if U k = true then some k else none
    | some g => if (U k && decide (q k < q g)) = true then some k else some g
theorem pkc_n {U : Nat → Bool} {q : Nat → Int} : ∀ {k : Nat}, pkc U q k = none → ∀ f, f < k → U f = false
  | 0, _, f, hf => absurd hf (by omega)
  | k + 1, h, f, hf => by
    simp only [pkc] at h
    cases hp : pkc U q k with
    | none =>
      rw [hp] at h
      simp only at h
      by_cases e : f = k
      · subst e
        rcases bool_or (U f) with hu | hu
        · exact hu
        · rw [hu, if_pos rfl] at h; cases h
      · exact pkc_n hp f (by omega)
    | some g =>
      rw [hp] at h
      simp only at h
      split at h <;> cases h
theorem pkc_s {U : Nat → Bool} {q : Nat → Int} : ∀ {k g : Nat}, pkc U q k = some g → g < k ∧ U g = true ∧ ∀ f, f < k → U f = true → f = g ∨ q g < q f ∨ (q g = q f ∧ g < f)
  | 0, _, h => by cases h
  | k + 1, g, h => by
    simp only [pkc] at h
    cases hp : pkc U q k with
    | none =>
      rw [hp] at h
      simp only at h
      split at h
      · rename_i hu
        cases h
        refine ⟨by omega, hu, fun f hf hu' => ?_⟩
        by_cases e : f = k
        · exact Or.inl e
        · rw [pkc_n hp f (by omega)] at hu'; cases hu'
      · cases h
    | some g' =>
      obtain ⟨h1, h2, h3⟩ := pkc_s hp
      rw [hp] at h
      simp only at h
      split at h
      · rename_i hu
        rw [Bool.and_eq_true, decide_eq_true_eq] at hu
        cases h
        refine ⟨by omega, hu.1, fun f hf hu' => ?_⟩
        by_cases e : f = k
        · exact Or.inl e
        · rcases h3 f (by omega) hu' with e' | e' | e'
          · subst e'; exact Or.inr (Or.inl hu.2)
          · exact Or.inr (Or.inl (by omega))
          · exact Or.inr (Or.inl (by omega))
      · rename_i hu
        cases h
        refine ⟨by omega, h2, fun f hf hu' => ?_⟩
        by_cases e : f = k
        · subst e
          rw [hu', Bool.true_and, decide_eq_true_eq] at hu
          exact Or.inr (by omega)
        · exact h3 f (by omega) hu'
/-- an order in which they run -/
def ORD (n : Nat) (ρ : Nat → Nat) (q : Nat → Int) : Prop := (∀ i, i < n → ρ i < n) ∧ (∀ i j, i < j → j < n → q (ρ i) < q (ρ j) ∨ (q (ρ i) = q (ρ j) ∧ ρ i < ρ j)) ∧ ∀ f, f < n → ∃ i, i < n ∧ ρ i = f
def ps (ρ : Nat → Nat) (i f : Nat) : Bool := anyb (fun j => decide (ρ j = f)) i
def UU (ρ : Nat → Nat) (E : Nat → Bool) (i f : Nat) : Bool := E f && !ps ρ i f
theorem ORD.inj {n : Nat} {ρ : Nat → Nat} {q : Nat → Int} (h : ORD n ρ q) {i j : Nat} (hi : i < n) (hj : j < n) (e : ρ i = ρ j) : i = j := by
  rcases Nat.lt_trichotomy i j with c | c | c
  · have := h.2.1 i j c hj; rw [e] at this; omega
  · exact c
  · have := h.2.1 j i c hi; rw [e] at this; omega
theorem pick_i {n i : Nat} {ρ : Nat → Nat} {q : Nat → Int} {E : Nat → Bool} (h : ORD n ρ q) (hi : i < n) (hE : E (ρ i) = true) : pkc (UU ρ E i) q n = some (ρ i) := by
  have hps : ps ρ i (ρ i) = false := by
    unfold ps
    rw [anyb_f]
    intro j hj
    rw [decide_eq_false]
    intro e
    have := h.inj (by omega) hi e
    omega
  have hU : UU ρ E i (ρ i) = true := by unfold UU; rw [hE, hps]; rfl
  cases hp : pkc (UU ρ E i) q n with
  | none => rw [pkc_n hp (ρ i) (h.1 i hi)] at hU; cases hU
  | some g =>
    obtain ⟨h1, h2, h3⟩ := pkc_s hp
    obtain ⟨j, hj, rfl⟩ := h.2.2 g h1
    have hji : i ≤ j := by
      apply Nat.le_of_not_lt
      intro hji
      unfold UU at h2
      rw [show ps ρ i (ρ j) = true from anyb_t.mpr ⟨j, hji, decide_eq_true rfl⟩, Bool.not_true, Bool.and_false] at h2
      cases h2
    by_cases e : j = i
    · rw [e]
    · have h4 := h.2.1 i j (by omega) hj
      have h5 := h3 (ρ i) (h.1 i hi) hU
      rcases h5 with h5 | h5
      · rw [h5]
      · omega
theorem pick_n {n : Nat} {ρ : Nat → Nat} {q : Nat → Int} {E : Nat → Bool} (h : ORD n ρ q) : pkc (UU ρ E n) q n = none := by
  cases hp : pkc (UU ρ E n) q n with
  | none => rfl
  | some g =>
    obtain ⟨h1, h2, -⟩ := pkc_s hp
    obtain ⟨j, hj, rfl⟩ := h.2.2 g h1
    unfold UU at h2
    rw [show ps ρ n (ρ j) = true from anyb_t.mpr ⟨j, hj, decide_eq_true rfl⟩, Bool.not_true, Bool.and_false] at h2
    cases h2
theorem UU_f {ρ : Nat → Nat} {E : Nat → Bool} {i : Nat} (hE : E (ρ i) = false) (f : Nat) : UU ρ E (i + 1) f = UU ρ E i f := by
  unfold UU ps
  simp only [anyb]
  by_cases e : ρ i = f
  · subst e; rw [hE]; rfl
  · rw [decide_eq_false e, Bool.or_false]
theorem UU_t {ρ : Nat → Nat} {E : Nat → Bool} {i : Nat} (f : Nat) : UU ρ E (i + 1) f = (UU ρ E i f && !decide (ρ i = f)) := by
  unfold UU ps
  simp only [anyb]
  rw [Bool.not_or, Bool.and_assoc]
def uv (u u' : mo_S) : Prop := (∀ k, k ≠ 30 → k ≠ 32 → k ≠ 33 → k ≠ 45 → u'.1 k = u.1 k) ∧ u'.2.1 = u.2.1 ∧ ∀ k, k ≠ 23 → k ≠ 46 → u'.2.2 k = u.2.2 k
theorem uv.refl (u : mo_S) : uv u u := ⟨fun _ _ _ _ _ => rfl, rfl, fun _ _ _ => rfl⟩
theorem uv.trans {u u' u'' : mo_S} (h : uv u u') (h' : uv u' u'') : uv u u'' := ⟨fun k a b c d => (h'.1 k a b c d).trans (h.1 k a b c d), h'.2.1.trans h.2.1, fun k a b => (h'.2.2 k a b).trans (h.2.2 k a b)⟩
def FM (nf : Nat) (B : Nat → Nat → Int32) (u : mo_S) : Prop := u.1 17 = nI nf ∧ u.2.2 12 = B 12 ∧ ∀ k, 18 ≤ k → k < 23 → u.2.2 k = B k
theorem FM.uv {nf : Nat} {B : Nat → Nat → Int32} {u u' : mo_S} (h : FM nf B u) (q : uv u u') : FM nf B u' := ⟨(q.1 17 (by decide) (by decide) (by decide) (by decide)).trans h.1, (q.2.2 12 (by decide) (by decide)).trans h.2.1, fun k a b => (q.2.2 k (by omega) (by omega)).trans (h.2.2 k a b)⟩
def RQ (u : mo_S) (L : List Nat) : Prop := u.1 45 = nI L.length ∧ ∀ i, i < L.length → u.2.2 46 i = nI (L.getD i 0)
def HV (u : mo_S) (v : Int32) : Prop := (¬ 100 ≤ v → u.1 33 = 0 ∧ u.1 30 = v) ∧ (100 ≤ v → u.1 33 = 1 ∧ u.1 32 = v)
def qq (B : Nat → Nat → Int32) (K f : Nat) : Int := if K < 2 then (B 18 f).toInt else -(B 18 f).toInt
def oN (r : Option Nat) : Int32 := oI r
section
variable {z : Nat} {D : gk_M} {mn nf : Nat} {B : Nat → Nat → Int32} {t : sd_S} {u : mo_S} {ρ : Nat → Nat} {mo : Option Nat}
theorem ms_bound (hF : FM nf B u) (hn : nf ≤ 8) (h12 : mn ≤ 12) (hmo : ∀ m, mo = some m → m < mn) {f : Nat} (hf : f < nf) : fn_Mo_bound (some (z + 27)) (nI f) (oI mo) (me z D t u) = some (b2 (bnd B mo f), me z D t u) := by
  have e19 : gk_il (me z D t u) 0 (some (z + 42)) (nI f) = some (B 19 f) := by rw [mo_il_19 (by omega), hF.2.2 19 (by decide) (by decide)]
  simp only [fn_Mo_bound, mo_gr_19, Option.bind_some, e19, fn_Mo_bound_28, fn_Mo_bound_32, ev_z1, ev_z0]
  unfold bnd
  by_cases c : B 19 f = 0
  · rw [if_pos c, decide_eq_true c, Bool.true_or, b2_t]
  · rw [if_neg c, decide_eq_false c, Bool.false_or]
    cases mo with
    | none =>
      rw [if_pos (show oI none < 0 by show (-1 : Int32) < 0; decide), b2_f]
    | some m =>
      have hm := hmo m rfl
      have e12 : gk_il (me z D t u) 0 (some (z + 37)) (nI m) = some (B 12 m) := by rw [mo_il_12 (by omega), hF.2.1]
      have hx : oI (some m) = nI m := rfl
      rw [hx, if_neg (nI_pos (by omega))]
      simp only [mo_gr_12, Option.bind_some, e12]
      by_cases c' : B 19 f = B 12 m
      · rw [if_pos c', decide_eq_true c', b2_t]
      · rw [if_neg c', decide_eq_false c', b2_f]
theorem is23 (u : mo_S) (A : Nat → Int32) {i : Nat} (hi : i < 8) (b : Bool) : gk_is (me z D t (u.1, u.2.1, setA u.2.2 23 A)) 2 .boolean (some (z + 46)) (nI i) (b2 b) = some (me z D t (u.1, u.2.1, setA u.2.2 23 (upd A i (b2 b)))) := by
  rw [mo_is_23 hi]
  simp only [setA_up]
  cases b <;> rfl
theorem uv23 (u : mo_S) (A : Nat → Int32) : uv u (u.1, u.2.1, setA u.2.2 23 A) := ⟨fun _ _ _ _ _ => rfl, rfl, fun k h _ => setA_ne _ _ h⟩
/-- first all that don't run are done -/
theorem ms_mark (hF : FM nf B u) (hn : nf ≤ 8) (h12 : mn ≤ 12) (hmo : ∀ m, mo = some m → m < mn) {K : Nat} (hK : K < 3) : ∃ A : Nat → Int32, fn_Mo_filterAll (some (z + 27)) (nI K) (oI mo) (me z D t u) = fn_Mo_filterAll_52 (some (z + 27)) (nI K) 0 (me z D t (u.1, u.2.1, setA u.2.2 23 A)) ∧ ∀ f, f < nf → A f = b2 (!EF B mo K f) := by
  unfold fn_Mo_filterAll fn_Mo_filterAll_2
  obtain ⟨a', w, h1, h2⟩ := lp_to (body := fun (kk : Option Nat × Int32 × Int32 × Int32 × gk_M → Option gk_M) a => fn_Mo_filterAll_2_bd (fun a0 x1 x2 x3 M => kk (a0, x1, x2, x3, M)) a.1 a.2.1 a.2.2.1 a.2.2.2.1 a.2.2.2.2) (fun i st => ∃ A : Nat → Int32, st = (some (z + 27), nI K, oI mo, nI i, me z D t (u.1, u.2.1, setA u.2.2 23 A)) ∧ ∀ f, f < i → A f = b2 (!EF B mo K f)) nf (fun i st hi hst => by
    obtain ⟨A, rfl, hA⟩ := hst
    refine ⟨_, ⟨upd A i (b2 (!EF B mo K i)), rfl, fun f hf => ?_⟩, fun kk => ?_⟩
    · by_cases e : f = i
      · subst e; rw [pk_us]
      · rw [pk_un e]; exact hA f (by omega)
    · have hs := is23 (z := z) (D := D) (t := t) u A (i := i) (by omega)
      have hsT := hs true
      have hsF := hs false
      rw [b2_t] at hsT
      rw [b2_f] at hsF
      have hF1 := hF.uv (uv23 u A)
      have e20 : gk_il (me z D t (u.1, u.2.1, setA u.2.2 23 A)) 0 (some (z + 43)) (nI i) = some (B 20 i) := by rw [mo_il_20 (by omega), hF1.2.2 20 (by decide) (by decide)]
      have hb := ms_bound (z := z) (D := D) (t := t) hF1 hn h12 hmo hi
      simp only [fn_Mo_filterAll_2_bd, mo_gi_17, hF.1, Option.bind_some, if_neg (nI_ge hi (by omega)), mo_gr_23, mo_gr_20, e20, mo_ob, hb, b2_0, fn_Mo_filterAll_42, fn_Mo_filterAll_38, fn_Mo_filterAll_43, hsT, hsF, nI_1]
      unfold EF
      by_cases cK : B 20 i = nI K
      · rw [if_pos cK, decide_eq_true cK, Bool.true_and]
        by_cases c0 : K = 0
        · subst c0
          rw [if_pos (by rw [nI_0]; exact Int32.le_refl _), decide_eq_true rfl, Bool.true_or, Bool.not_true, b2_f]
        · rw [if_neg (nI_nle (by omega) (by omega)), decide_eq_false c0, Bool.false_or]
          rcases bool_or (bnd B mo i) with hbb | hbb
          · rw [if_pos hbb, hbb, Bool.not_false, b2_t]
          · rw [if_neg (by rw [hbb]; decide), hbb, Bool.not_true, b2_f]
      · rw [if_neg cK, decide_eq_false cK, Bool.false_and, Bool.not_false, b2_t]) nf 0 gk_fuel (some (z + 27), nI K, oI mo, 0, me z D t u) (by omega) (by unfold gk_fuel; omega) ⟨u.2.2 23, by rw [setA_id]; rfl, fun f hf => absurd hf (by omega)⟩
  obtain ⟨A, rfl, hA⟩ := h1
  refine ⟨A, ?_, hA⟩
  rw [h2]
  simp only [fn_Mo_filterAll_2_bd, mo_gi_17, hF.1, Option.bind_some, if_pos (Int32.le_refl _)]
theorem fa_e (hF : FM nf B u) (K52 : Option Nat → Int32 → Int32 → gk_M → Option gk_M) (kk : Option Nat → Int32 → Int32 → Int32 → Int32 → gk_M → Option gk_M) (x1 x3 x4 : Int32) : fn_Mo_filterAll_76_bd K52 kk (some (z + 27)) x1 x3 x4 (nI nf) (me z D t u) = if 0 ≤ x4 then fa_run K52 (some (z + 27)) x1 x3 x4 (me z D t u) else some (me z D t u) := by
  unfold fn_Mo_filterAll_76_bd fa_run
  rw [mo_gi_17, hF.1, Option.bind_some, if_pos (Int32.le_refl _)]
theorem lt_toInt (x y : Int32) : (¬ y ≤ x) = (x.toInt < y.toInt) := by
  rw [Int32.le_iff_toInt_le]; exact propext ⟨fun h => by omega, fun h => by omega⟩
theorem ms_pick (hF : FM nf B u) (hn : nf ≤ 8) {K : Nat} (hK : K < 3) {U : Nat → Bool} (hU : ∀ f, f < nf → u.2.2 23 f = b2 (!U f)) (x3 : Int32) (K52 : Option Nat → Int32 → Int32 → gk_M → Option gk_M) : fn_Mo_filterAll_70 K52 (some (z + 27)) (nI K) x3 (me z D t u) = if 0 ≤ oI (pkc U (qq B K) nf) then fa_run K52 (some (z + 27)) (nI K) x3 (oI (pkc U (qq B K) nf)) (me z D t u) else some (me z D t u) := by
  unfold fn_Mo_filterAll_70 fn_Mo_filterAll_76
  obtain ⟨a', w, h1, h2⟩ := lp_toK (body := fun (K52 : Option Nat → Int32 → Int32 → gk_M → Option gk_M) (kk : Option Nat × Int32 × Int32 × Int32 × Int32 × gk_M → Option gk_M) a => fn_Mo_filterAll_76_bd K52 (fun a0 x1 x3 x4 x5 M => kk (a0, x1, x3, x4, x5, M)) a.1 a.2.1 a.2.2.1 a.2.2.2.1 a.2.2.2.2.1 a.2.2.2.2.2) (fun i st => st = (some (z + 27), nI K, x3, oI (pkc U (qq B K) i), nI i, me z D t u)) nf (fun i st hi hst => by
    subst hst
    refine ⟨_, rfl, fun K52 kk => ?_⟩
    have e23 : gk_il (me z D t u) 2 (some (z + 46)) (nI i) = some (b2 (!U i)) := by rw [mo_il_23 (by omega), hU i hi]
    have e18 : ∀ j, j < nf → gk_il (me z D t u) 0 (some (z + 41)) (nI j) = some (B 18 j) := fun j hj => by rw [mo_il_18 (by omega), hF.2.2 18 (by decide) (by decide)]
    have h137 : ∀ (r : Option Nat) (s : Bool), (∀ g, r = some g → g < nf) → fn_Mo_filterAll_137 K52 (fun a0 x1 x3 x4 x5 M => kk (a0, x1, x3, x4, x5, M)) (some (z + 27)) (nI K) x3 (oI r) (nI i) (b2 s) (me z D t u) = kk (some (z + 27), nI K, x3, oI (match r with | none => if U i = true then some i else none | some g => if (U i && s) = true then some i else some g), nI (i + 1), me z D t u) := by
      intro r s hr
      simp only [fn_Mo_filterAll_137, mo_gr_23, Option.bind_some, e23, b2_0, fn_Mo_filterAll_159, fn_Mo_filterAll_163, nI_1]
      rcases bool_or (U i) with hu | hu
      · rw [if_neg (by rw [hu]; decide)]
        cases r with
        | none => simp only [hu, Bool.false_eq_true, if_false]
        | some g => simp only [hu, Bool.false_and, Bool.false_eq_true, if_false]
      · rw [if_pos (by rw [hu]; rfl)]
        cases r with
        | none =>
          rw [if_pos (show oI none < 0 by show (-1 : Int32) < 0; decide)]
          simp only [hu, if_true, oI]
        | some g =>
          have hx : oI (some g) = nI g := rfl
          rw [hx, if_neg (nI_pos (by have := hr g rfl; omega))]
          rcases bool_or s with hs | hs
          · rw [if_pos hs]
            simp only [hu, hs, Bool.and_false, Bool.false_eq_true, if_false, hx]
          · rw [if_neg (by rw [hs]; decide)]
            simp only [hu, hs, Bool.and_self, if_true, oI]
    have h136 := fun r hr => h137 r false hr
    have h132 := fun r hr => h137 r true hr
    simp only [b2_f] at h136
    simp only [b2_t] at h132
    have hpk : pkc U (qq B K) (i + 1) = match pkc U (qq B K) i with | none => if U i = true then some i else none | some g => if (U i && decide (qq B K i < qq B K g)) = true then some i else some g := rfl
    rw [hpk]
    have hlt : ∀ g, pkc U (qq B K) i = some g → g < nf := fun g hg => by have := (pkc_s hg).1; omega
    generalize pkc U (qq B K) i = r at hlt ⊢
    have e17 : gk_gi (me z D t u) 12 17 (some (z + 27)) = some (nI nf) := by rw [mo_gi_17, hF.1]
    show fn_Mo_filterAll_76_bd K52 (fun a0 x1 x3 x4 x5 M => kk (a0, x1, x3, x4, x5, M)) (some (z + 27)) (nI K) x3 (oI r) (nI i) (me z D t u) = _
    unfold fn_Mo_filterAll_76_bd
    rw [e17, Option.bind_some, if_neg (nI_ge hi (by omega))]
    cases r with
    | none =>
      rw [if_pos (show oI none < 0 by show (-1 : Int32) < 0; decide)]
      unfold fn_Mo_filterAll_136
      exact h136 none hlt
    | some g =>
      have hg := hlt g rfl
      have hx : oI (some g) = nI g := rfl
      have h136 := h136 (some g) hlt
      have h132 := h132 (some g) hlt
      rw [hx] at h136 h132
      rw [hx, if_neg (nI_pos (by omega))]
      simp only [mo_gr_18, Option.bind_some, e18 i hi, e18 g hg, fn_Mo_filterAll_136, fn_Mo_filterAll_132, h136, h132]
      by_cases cK : K < 2
      · have h2K : ¬ (2 : Int32) ≤ nI K := nI_ge (a := K) (b := 2) cK (by omega)
        have hq : (qq B K i < qq B K g) = ¬ B 18 g ≤ B 18 i := by unfold qq; rw [if_pos cK, if_pos cK, lt_toInt]
        rw [if_neg h2K]
        by_cases c : B 18 g ≤ B 18 i
        · rw [if_pos c, decide_eq_false (show ¬ qq B K i < qq B K g by rw [hq]; exact fun q => q c)]
        · rw [if_neg c, decide_eq_true (show qq B K i < qq B K g by rw [hq]; exact c)]
      · have h2K : (2 : Int32) ≤ nI K := nI_le (a := 2) (b := K) (by omega) (by omega)
        have hq : (qq B K i < qq B K g) = ¬ B 18 i ≤ B 18 g := by
          unfold qq
          rw [if_neg cK, if_neg cK, lt_toInt]
          exact propext ⟨fun h => by omega, fun h => by omega⟩
        rw [if_pos h2K]
        by_cases c : B 18 i ≤ B 18 g
        · rw [if_pos c, decide_eq_false (show ¬ qq B K i < qq B K g by rw [hq]; exact fun q => q c)]
        · rw [if_neg c, decide_eq_true (show qq B K i < qq B K g by rw [hq]; exact c)]) nf 0 gk_fuel (some (z + 27), nI K, x3, -1, 0, me z D t u) (by omega) (by unfold gk_fuel; omega) rfl
  subst h1
  rw [h2 K52]
  exact fa_e hF K52 _ _ _ _
end
