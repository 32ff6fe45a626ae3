def r3 (u u' : mo_S) (r : Option (Nat × Int32)) : Prop := (r = none → u'.1 35 = -1 ∧ u'.1 39 = u.1 39) ∧ ∀ q, r = some q → u'.1 35 = nI q.1 ∧ u'.1 39 = q.2
def acm (na : Nat) (ty : Nat → Int32) (qs : Nat → Nat) (B : Nat → Nat → Int32) (m : Nat) : Bool := anyb (fun k => ac (ty k) (qs k) (B 9 m)) na
theorem wo_n {ty : Nat → Int32} {qs : Nat → Nat} {p : Int32} {l k : Nat} : wo ty qs p l k = none ↔ ac (ty k) (qs k) p = false := by
  unfold wo
  rcases bool_or (ac (ty k) (qs k) p) with h | h
  · rw [h]; simp
  · rw [h]; simp
theorem acm_n {na : Nat} {ty : Nat → Int32} {qs : Nat → Nat} {B : Nat → Nat → Int32} {m l : Nat} : fm (wo ty qs (B 9 m) l) na = none ↔ acm na ty qs B m = false := by
  rw [fm_none]
  unfold acm
  rw [anyb_f]
  constructor
  · intro h i hi; exact wo_n.mp (h i hi)
  · intro h i hi; exact wo_n.mpr (h i hi)
theorem vm_acm {na : Nat} {ty : Nat → Int32} {qs : Nat → Nat} {B : Nat → Nat → Int32} {x : Int32} {C : Nat → Bool} : vm na ty qs B (RR B x) (fun m => C m && acm na ty qs B m) = vm na ty qs B (RR B x) C := by
  funext m
  rcases bool_or (C m) with hc | hc
  · rw [vm_f (C := C) hc, vm_f (by rw [hc]; rfl)]
  · rcases bool_or (acm na ty qs B m) with ha | ha
    · rw [vm_t (C := C) hc, vm_f (by rw [ha, Bool.and_false]), acm_n.mpr ha]; rfl
    · rw [vm_t (C := C) hc, vm_t (by rw [ha, hc]; rfl)]
theorem vm_any {na mn : Nat} {ty : Nat → Int32} {qs : Nat → Nat} {B : Nat → Nat → Int32} {x : Int32} {C : Nat → Bool} : fm (vm na ty qs B (RR B x) C) mn = none ↔ anyb (fun m => C m && acm na ty qs B m) mn = false := by
  rw [fm_none, anyb_f]
  constructor
  · intro h i hi
    have h := h i hi
    rcases bool_or (C i) with hc | hc
    · show (C i && acm na ty qs B i) = false
      rw [hc]; rfl
    · rw [vm_t hc, Option.map_eq_none_iff] at h
      show (C i && acm na ty qs B i) = false
      rw [acm_n.mp h, Bool.and_false]
  · intro h i hi
    have h : (C i && acm na ty qs B i) = false := h i hi
    rcases bool_or (C i) with hc | hc
    · exact vm_f hc
    · rw [hc, Bool.true_and] at h
      rw [vm_t hc, acm_n.mpr h]; rfl
section
variable {z : Nat} {D : gk_M} {rn mn ln n na : Nat} {P : Nat → Int32} {B : Nat → Nat → Int32} {t : sd_S} {u : mo_S} {ty : Nat → Int32} {qs : Nat → Nat} {C : Nat → Bool}
theorem ms_188 (hM : MM rn mn ln n P B u) (h12 : mn ≤ 12) (hmr : ∀ m, m < mn → mrg rn B m) {x : Int32} (hA : AL na ty qs) (hAM : AM na ty qs u) (hC : ∀ m, m < mn → u.2.2 54 m = b2 (C m)) (h35 : u.1 35 = -1) : ∃ u', us u u' ∧ fn_Mo_stageThree_188 (some (z + 27)) x 0 (me z D t u) = some ((e3 B ty (fm (vm na ty qs B (RR B x) C) mn)).1, me z D t u') ∧ u'.1 38 = u.1 38 ∧ r3 u u' (e3 B ty (fm (vm na ty qs B (RR B x) C) mn)).2 := by
  unfold fn_Mo_stageThree_188
  obtain ⟨a', w, h1, h2⟩ := lp_to (body := fun (kk : Option Nat × Int32 × Int32 × gk_M → Option (Int32 × gk_M)) a => fn_Mo_stageThree_188_bd (fun a0 x1 x3 M => kk (a0, x1, x3, M)) a.1 a.2.1 a.2.2.1 a.2.2.2) (fun i st => ∃ A, st = (some (z + 27), x, nI i, me z D t (u.1, u.2.1, setA u.2.2 54 A)) ∧ hf mn i C (fun m => C m && acm na ty qs B m) A) mn (fun i st hi hst => by
    obtain ⟨A, rfl, hf1⟩ := hst
    refine ⟨_, ⟨_, rfl, hf_s hf1⟩, fun kk => ?_⟩
    have e := il54 (z := z) (D := D) (t := t) u A (i := i) (by omega)
    rw [hf_i hf1 hi] at e
    have hs := is54 (z := z) (D := D) (t := t) u A (i := i) (by omega)
    have hsT := hs true
    have hsF := hs false
    rw [b2_t] at hsT
    rw [b2_f] at hsF
    have hac := ms_accepted (z := z) (D := D) (t := t) (hM.us (us54 u A)) h12 hA (hAM.us (us54 u A)) hi (hmr i hi).2.2.2.1
    rw [show anyb (fun k => ac (ty k) (qs k) (B 9 i)) na = acm na ty qs B i from rfl] at hac
    simp only [fn_Mo_stageThree_188_bd, mo_gi_5, hM.2.1, Option.bind_some, if_neg (nI_ge hi (by omega)), mo_gr_54, e, b2_0, mo_ob, hac, fn_Mo_stageThree_222, fn_Mo_stageThree_223, hsT, hsF, nI_1]
    rcases bool_or (C i) with hc | hc
    · rw [if_pos hc, hc, Bool.false_and, b2_f]
    · rw [if_neg (by rw [hc]; decide), hc, Bool.true_and]
      rcases bool_or (acm na ty qs B i) with ha | ha
      · rw [if_pos ha, ha, b2_f]
      · rw [if_neg (by rw [ha]; decide), ha, b2_t]) mn 0 gk_fuel (some (z + 27), x, 0, me z D t u) (by omega) (by unfold gk_fuel; omega) ⟨u.2.2 54, by rw [setA_id]; rfl, hf_0 hC⟩
  obtain ⟨A, rfl, hf1⟩ := h1
  rw [h2]
  have hC' : ∀ m, m < mn → (u.1, u.2.1, setA u.2.2 54 A).2.2 54 m = b2 ((fun m => C m && acm na ty qs B m) m) := fun m hm => (congrFun (setA_self u.2.2 54 A) m).trans (hf_n hf1 m hm)
  have hM1 := hM.us (us54 u A)
  have hany := ms_any (z := z) (D := D) (t := t) (u := (u.1, u.2.1, setA u.2.2 54 A)) hM1.2.1 h12 hC'
  simp only [fn_Mo_stageThree_188_bd, mo_gi_5, hM.2.1, Option.bind_some, if_pos (Int32.le_refl _), mo_ob, hany, b2_0]
  rcases bool_or (anyb (fun m => C m && acm na ty qs B m) mn) with ha | ha
  · rw [if_pos ha, vm_any.mpr ha]
    exact ⟨(u.1, u.2.1, setA u.2.2 54 A), us54 u A, rfl, rfl, fun _ => ⟨h35, rfl⟩, fun q hq => by cases hq⟩
  · rw [if_neg (by rw [ha]; decide)]
    cases hp : fm (vm na ty qs B (RR B x) C) mn with
    | none => rw [vm_any.mp hp] at ha; cases ha
    | some p =>
      have hus : us (u.1, u.2.1, setA u.2.2 54 A) (u.1, (-1 : Int64), setA u.2.2 54 A) := ⟨fun _ _ _ _ _ => rfl, fun _ _ => rfl⟩
      obtain ⟨u', g1, g2, g3, g4, g5⟩ := ms_252 (z := z) (D := D) (t := t) (u := (u.1, (-1 : Int64), setA u.2.2 54 A)) (C := fun m => C m && acm na ty qs B m) (x := x) (hM1.us hus) h12 hmr hA ((hAM.us (us54 u A)).us hus) hC' rfl (p := p) (by rw [vm_acm]; exact hp)
      refine ⟨u', ((us54 u A).trans hus).trans g1, ?_, g3, g4, g5⟩
      simp only [mo_pl_55, Option.bind_some]
      exact g2
theorem ms_125 (hM : MM rn mn ln n P B u) (h12 : mn ≤ 12) (hmr : ∀ m, m < mn → mrg rn B m) {x : Int32} (hx : isTy x = true) (hA : AL na ty qs) (hAM : AM na ty qs u) (hC : ∀ m, m < mn → u.2.2 54 m = b2 (C m)) (h35 : u.1 35 = -1) {r : Int32 × Option (Nat × Int32)} (hr : r = if anyb (c2 B C x) mn = false then (11, none) else e3 B ty (fm (vm na ty qs B (RR B x) (c2 B C x)) mn)) : ∃ u', us u u' ∧ fn_Mo_stageThree_125 (some (z + 27)) x 0 (me z D t u) = some (r.1, me z D t u') ∧ u'.1 38 = u.1 38 ∧ r3 u u' r.2 := by
  unfold fn_Mo_stageThree_125
  obtain ⟨a', w, h1, h2⟩ := lp_to (body := fun (kk : Option Nat × Int32 × Int32 × gk_M → Option (Int32 × gk_M)) a => fn_Mo_stageThree_125_bd (fun a0 x1 x3 M => kk (a0, x1, x3, M)) a.1 a.2.1 a.2.2.1 a.2.2.2) (fun i st => ∃ A, st = (some (z + 27), x, nI i, me z D t (u.1, u.2.1, setA u.2.2 54 A)) ∧ hf mn i C (c2 B C x) A) mn (fun i st hi hst => by
    obtain ⟨A, rfl, hf1⟩ := hst
    refine ⟨_, ⟨_, rfl, hf_s hf1⟩, fun kk => ?_⟩
    have e := il54 (z := z) (D := D) (t := t) u A (i := i) (by omega)
    rw [hf_i hf1 hi] at e
    have hs := is54 (z := z) (D := D) (t := t) u A (i := i) (by omega)
    have hsT := hs true
    have hsF := hs false
    rw [b2_t] at hsT
    rw [b2_f] at hsF
    have hM1 := hM.us (us54 u A)
    have e8 : gk_il (me z D t (u.1, u.2.1, setA u.2.2 54 A)) 0 (some (z + 33)) (nI i) = some (B 8 i) := by rw [mo_il_8 (by omega), hM1.2.2.2.2.2 8 (by decide)]
    simp only [fn_Mo_stageThree_125_bd, mo_gi_5, hM.2.1, Option.bind_some, if_neg (nI_ge hi (by omega)), mo_gr_54, e, b2_0, mo_gr_8, e8, ms_covers (hmr i hi).2.2.1 hx, fn_Mo_stageThree_168, fn_Mo_stageThree_164, fn_Mo_stageThree_169, hsT, hsF, nI_1]
    unfold c2
    rcases bool_or (C i) with hc | hc
    · rw [if_pos hc, hc, Bool.false_and, b2_f]
    · rw [if_neg (by rw [hc]; decide), hc, Bool.true_and]
      by_cases h0 : x = 0
      · rw [if_pos h0, decide_eq_true h0, Bool.true_or, b2_t]
      · rw [if_neg h0, decide_eq_false h0, Bool.false_or]
        rcases bool_or (cv (B 8 i) x) with ha | ha
        · rw [if_pos ha, ha, b2_f]
        · rw [if_neg (by rw [ha]; decide), ha, b2_t]) mn 0 gk_fuel (some (z + 27), x, 0, me z D t u) (by omega) (by unfold gk_fuel; omega) ⟨u.2.2 54, by rw [setA_id]; rfl, hf_0 hC⟩
  obtain ⟨A, rfl, hf1⟩ := h1
  rw [h2]
  have hC' : ∀ m, m < mn → (u.1, u.2.1, setA u.2.2 54 A).2.2 54 m = b2 (c2 B C x m) := fun m hm => (congrFun (setA_self u.2.2 54 A) m).trans (hf_n hf1 m hm)
  have hM1 := hM.us (us54 u A)
  have hany := ms_any (z := z) (D := D) (t := t) (u := (u.1, u.2.1, setA u.2.2 54 A)) hM1.2.1 h12 hC'
  simp only [fn_Mo_stageThree_125_bd, mo_gi_5, hM.2.1, Option.bind_some, if_pos (Int32.le_refl _), mo_ob, hany, b2_0]
  rcases bool_or (anyb (c2 B C x) mn) with ha | ha
  · rw [if_pos ha] at hr ⊢
    subst hr
    exact ⟨(u.1, u.2.1, setA u.2.2 54 A), us54 u A, rfl, rfl, fun _ => ⟨h35, rfl⟩, fun q hq => by cases hq⟩
  · rw [if_neg (by rw [ha]; decide)] at hr ⊢
    subst hr
    obtain ⟨u', g1, g2, g3, g4⟩ := ms_188 (z := z) (D := D) (t := t) (u := (u.1, u.2.1, setA u.2.2 54 A)) (C := c2 B C x) (x := x) hM1 h12 hmr hA (hAM.us (us54 u A)) hC' h35
    exact ⟨u', (us54 u A).trans g1, g2, g3, g4⟩
theorem ms_three (hM : MM rn mn ln n P B u) (h12 : mn ≤ 12) (hmr : ∀ m, m < mn → mrg rn B m) {x v : Int32} (hx : isTy x = true) (h30 : u.1 30 = v) (hA : AL na ty qs) (hAM : AM na ty qs u) (hC : ∀ m, m < mn → u.2.2 54 m = b2 (C m)) (h35 : u.1 35 = -1) : ∃ u', us u u' ∧ fn_Mo_stageThree (some (z + 27)) x (me z D t u) = some ((s3 mn na B ty qs C v x).1, me z D t u') ∧ u'.1 38 = md (av B C mn) ∧ r3 u u' (s3 mn na B ty qs C v x).2 := by
  have hv6 : ∀ m, m < mn → vb B m < 6 := fun m hm => (vb_of (hmr m hm)).2
  unfold fn_Mo_stageThree fn_Mo_stageThree_8
  rw [mo_pf_38, Option.bind_some]
  obtain ⟨a', w, h1, h2⟩ := lp_to (body := fun (kk : Option Nat × Int32 × Int32 × gk_M → Option (Int32 × gk_M)) a => fn_Mo_stageThree_8_bd (fun a0 x1 x2 M => kk (a0, x1, x2, M)) a.1 a.2.1 a.2.2.1 a.2.2.2) (fun i st => st = (some (z + 27), x, nI i, me z D t (upd u.1 38 (md (av B C i)), u.2))) mn (fun i st hi hst => by
    subst hst
    refine ⟨_, rfl, fun kk => ?_⟩
    have e : gk_il (me z D t (upd u.1 38 (md (av B C i)), u.2)) 2 (some (z + 60)) (nI i) = some (b2 (C i)) := by rw [mo_il_54 (by omega)]; exact congrArg some (hC i hi)
    have e7 : gk_il (me z D t (upd u.1 38 (md (av B C i)), u.2)) 0 (some (z + 32)) (nI i) = some (nI (vb B i)) := by
      rw [mo_il_7 (by omega), ← (vb_of (hmr i hi)).1]
      exact congrArg some (congrFun (hM.2.2.2.2.2 7 (by decide)) i)
    have e5 : upd u.1 38 (md (av B C i)) 5 = nI mn := (pk_un (by decide)).trans hM.2.1
    have hf := av_f2 (av_lt (B := B) (C := C) (k := i) (fun m hm => hv6 m (by omega))) (hv6 i hi)
    simp only [fn_Mo_stageThree_8_bd, mo_gi_5, e5, Option.bind_some, if_neg (nI_ge hi (by omega)), mo_gr_54, e, b2_0, mo_gi_38, pk_us, mo_gr_7, e7, fn_Mo_stageThree_54, fn_Mo_stageThree_62, mo_pf_38, upd_upd, nI_1, av]
    rcases bool_or (C i) with hc | hc
    · rw [if_pos hc, if_neg (by rw [hc]; decide)]
    · rw [if_neg (by rw [hc]; decide), if_pos hc, ← hf]
      by_cases c : nI (vb B i) = 0
      · rw [if_pos c, if_pos c]
      · rw [if_neg c, if_neg c]) mn 0 gk_fuel (some (z + 27), x, 0, me z D t (upd u.1 38 32, u.2)) (by omega) (by unfold gk_fuel; omega) (by rw [show md (av B C 0) = 32 from by show md 32 = 32; decide]; rfl)
  subst h1
  rw [h2]
  generalize hu1 : ((upd u.1 38 (md (av B C mn)), u.2) : mo_S) = u1
  have hus1 : us u u1 := by rw [← hu1]; exact ⟨fun k _ b _ _ => pk_un b, fun _ _ => rfl⟩
  have h38 : u1.1 38 = md (av B C mn) := by rw [← hu1]; exact pk_us (f := u.1) (k := 38)
  have h39 : u1.1 39 = u.1 39 := by rw [← hu1]; exact pk_un (f := u.1) (k := 38) (j := 39) (x := md (av B C mn)) (by decide)
  have h351 : u1.1 35 = -1 := by rw [← hu1]; exact (pk_un (f := u.1) (k := 38) (j := 35) (x := md (av B C mn)) (by decide)).trans h35
  have h301 : u1.1 30 = v := (hus1.1 30 (by decide) (by decide) (by decide) (by decide)).trans h30
  have hC1 : ∀ m, m < mn → u1.2.2 54 m = b2 (C m) := by rw [← hu1]; exact hC
  have hM1 := hM.us hus1
  have hAM1 := hAM.us hus1
  have fin : ∀ (A : Nat → Int32) (C' : Nat → Bool), (∀ m, m < mn → A m = b2 (C' m)) → C' = cV mn B C v → anyb C' mn = true → ∃ u', us u u' ∧ fn_Mo_stageThree_98 (some (z + 27)) x (me z D t (u1.1, u1.2.1, setA u1.2.2 54 A)) = some ((s3 mn na B ty qs C v x).1, me z D t u') ∧ u'.1 38 = md (av B C mn) ∧ r3 u u' (s3 mn na B ty qs C v x).2 := by
    intro A C' hA' hC' ha
    obtain ⟨u', g1, g2, g3, g4⟩ := ms_125 (z := z) (D := D) (t := t) (u := (u1.1, u1.2.1, setA u1.2.2 54 A)) (C := C') (x := x) (hM1.us (us54 u1 A)) h12 hmr hx hA (hAM1.us (us54 u1 A)) (fun m hm => (congrFun (setA_self u1.2.2 54 A) m).trans (hA' m hm)) h351 (r := s3 mn na B ty qs C v x) (by
      unfold s3
      rw [← hC', if_neg (by rw [ha]; decide)]
      rfl)
    refine ⟨u', (hus1.trans (us54 u1 A)).trans g1, ?_, g3.trans h38, fun q => ⟨(g4.1 q).1, (g4.1 q).2.trans h39⟩, g4.2⟩
    simp only [fn_Mo_stageThree_98, fn_Mo_stageThree_103, if_neg e10]
    exact g2
  have non : ∀ (A : Nat → Int32), anyb (cV mn B C v) mn = false → ∃ u', us u u' ∧ fn_Mo_stageThree_102 (some (z + 27)) x (me z D t (u1.1, u1.2.1, setA u1.2.2 54 A)) = some ((s3 mn na B ty qs C v x).1, me z D t u') ∧ u'.1 38 = md (av B C mn) ∧ r3 u u' (s3 mn na B ty qs C v x).2 := by
    intro A ha
    refine ⟨(u1.1, u1.2.1, setA u1.2.2 54 A), hus1.trans (us54 u1 A), ?_, h38, ?_⟩
    · unfold s3
      rw [if_pos ha]
      simp only [fn_Mo_stageThree_102, fn_Mo_stageThree_103, if_true, mo_gi_30, h301, Option.bind_some]
      by_cases h5 : v = 5
      · rw [if_pos h5, if_pos h5]
      · rw [if_neg h5, if_neg h5]
    · unfold s3
      rw [if_pos ha]
      exact ⟨fun _ => ⟨h351, h39⟩, fun q hq => by cases hq⟩
  obtain ⟨A, o1, o2⟩ := ms_only (z := z) (D := D) (t := t) (u := u1) hM1.2.1 h12 (hM1.2.2.2.2.2 7 (by decide)) hC1 v
  simp only [fn_Mo_stageThree_8_bd, mo_gi_5, hM1.2.1, Option.bind_some, if_pos (Int32.le_refl _), mo_gi_30, h301, mo_ob, o1, b2_0]
  rcases bool_or (anyb (c1 B C v) mn) with ha | ha
  · rw [if_pos ha]
    rw [ha, cO_f] at o2
    by_cases h4 : v = 4
    · rw [if_pos h4]
      have hcV : cV mn B C v = c1 B C 0 := by unfold cV; rw [if_pos ⟨ha, h4⟩]
      obtain ⟨A', p1, p2⟩ := ms_only (z := z) (D := D) (t := t) (u := (u1.1, u1.2.1, setA u1.2.2 54 A)) (C := C) (hM1.us (us54 u1 A)).2.1 h12 ((hM1.us (us54 u1 A)).2.2.2.2.2 7 (by decide)) (fun m hm => (congrFun (setA_self u1.2.2 54 A) m).trans (o2 m hm)) 0
      have hss : setA (setA u1.2.2 54 A) 54 A' = setA u1.2.2 54 A' := by
        funext k
        by_cases e : k = 54
        · subst e; rw [setA_self, setA_self]
        · rw [setA_ne _ _ e, setA_ne _ _ e, setA_ne _ _ e]
      have p1 : fn_Mo_only (some (z + 27)) 0 (me z D t (u1.1, u1.2.1, setA u1.2.2 54 A)) = some (b2 (anyb (c1 B C 0) mn), me z D t (u1.1, u1.2.1, setA u1.2.2 54 A')) := by rw [p1]; simp only [hss]
      simp only [p1, Option.bind_some, b2_0]
      rcases bool_or (anyb (c1 B C 0) mn) with hb | hb
      · rw [if_pos hb]
        exact non A' (by rw [hcV]; exact hb)
      · rw [if_neg (by rw [hb]; decide)]
        rw [hb, cO_t] at p2
        exact fin A' (c1 B C 0) p2 hcV.symm hb
    · rw [if_neg h4]
      have hcV : cV mn B C v = c1 B C v := by unfold cV; rw [if_neg (fun q => h4 q.2)]
      exact non A (by rw [hcV]; exact ha)
  · rw [if_neg (by rw [ha]; decide)]
    have hcV : cV mn B C v = c1 B C v := by unfold cV; rw [if_neg (fun q => by rw [ha] at q; cases q.1)]
    rw [ha, cO_t] at o2
    exact fin A (c1 B C v) o2 hcV.symm ha
end
