def tm (B : Nat → Nat → Int32) (T : Nat) : Nat := (B 3 T).toNatClampNeg
def tx (B : Nat → Nat → Int32) (T : Nat) : Nat → Int32 := fun i => B 2 (24 * T + i)
def tl (B : Nat → Nat → Int32) (T : Nat) : List Int32 := pk (tm B T) (tx B T) 0
def Wt (l : List Int32) : Nat := 100 * (l.length - ngr l) + 10 * ngr l + nnr l
def en (n : Nat) (P : Nat → Int32) (j : Nat) : Bool := decide (j = n) || (decide (j + 1 = n) && decide (P j = 47))
/-- what is known of a template's place -/
def tgd (B : Nat → Nat → Int32) (T : Nat) : Prop := B 3 T = nI (tm B T) ∧ tm B T ≤ 24 ∧ gd (tm B T) (tx B T) 0 = true ∧ (∀ i, i < tm B T → kc (tx B T i) = true) ∧ (0 < tm B T → ngr (tl B T) ≤ 4 ∧ ∃ l', tl B T = 47 :: l')
theorem tmp_use {z : Nat} {D : gk_M} {ro : Option Nat} {B : Nat → Nat → Int32} {T : Nat} (h : tmp z D ro (B 3 T) (fun i => B 2 (24 * T + i))) : tgd B T ∧ ((ro = none ∧ tm B T = 0) ∨ ∃ a, ro = some a ∧ 0 < tm B T ∧ tpl z D a (tl B T)) := by
  rcases h with ⟨h1, h2⟩ | ⟨a, n, h1, h2, h3, h4, h5, h6, h7⟩
  · have e : tm B T = 0 := by unfold tm; rw [h2]; rfl
    refine ⟨⟨by rw [e, h2]; rfl, by omega, by rw [e]; exact gd_nil (by omega), fun i hi => absurd hi (by omega), fun h => absurd h (by omega)⟩, Or.inl ⟨h1, e⟩⟩
  · have e : tm B T = n := by unfold tm; rw [h2, nI_clamp (by omega)]
    have e2 : pieces n (fun i => B 2 (24 * T + i)) = tl B T := by
      unfold tl; rw [e]; rfl
    unfold goodT at h5
    simp only [Bool.and_eq_true, decide_eq_true_eq, beq_iff_eq] at h5
    obtain ⟨⟨⟨⟨⟨g1, g2⟩, g3⟩, g4⟩, g5⟩, g6⟩ := h5
    rw [e2] at h7 g6
    refine ⟨⟨by rw [e, h2], by omega, by rw [e]; exact g4, by rw [e]; exact h6, fun _ => ⟨g6, ?_⟩⟩, Or.inr ⟨a, h1, by omega, h7⟩⟩
    have : tl B T = pvl n (tx B T) 0 :: pk n (tx B T) (0 + max 1 (psz n (tx B T) 0)) := by
      unfold tl; rw [e]; exact pk_cons h3
    refine ⟨pk n (tx B T) (0 + max 1 (psz n (tx B T) 0)), ?_⟩
    rw [this]
    have e3 : pvl n (tx B T) 0 = 47 := by
      have g2' : tx B T 0 = 47 := g2
      have : ¬ (47 : Int32) = 123 := by decide
      simp [pvl, g2', this]
    rw [e3]
theorem nnr_ngr (l : List Int32) : nnr l ≤ ngr l := by
  induction l with
  | nil => simp [nnr, ngr]
  | cons p l ih =>
    rw [nnr_cons, ngr_cons]
    by_cases h : p = 2 ∨ p = 3
    · have : p ≤ 3 := by rcases h with h | h <;> subst h <;> decide
      rw [if_pos h, if_pos this]; omega
    · rw [if_neg h]; omega
theorem cs_heavier {z : Nat} {D : gk_M} {t : sd_S} {u : mo_S} {a b : Nat} {l l' : List Int32} (h : tpl z D a l) (h' : tpl z D b l') (hg : ngr l ≤ 4) (hg' : ngr l' ≤ 4) : fn_Template_isHeavierThan (some a) (some b) (me z D t u) = some (b2 (decide (Wt l' < Wt l)), me z D t u) := by
  obtain ⟨-, -, -, -, a2, a3, a4, al⟩ := tpl_rd h
  obtain ⟨-, -, -, -, b2', b3, b4, bl⟩ := tpl_rd h'
  have q1 := ngr_le l
  have q2 := ngr_le l'
  have q3 := nnr_ngr l
  have q4 := nnr_ngr l'
  simp only [fn_Template_isHeavierThan, a2, b2', a3, b3, a4, b4, Option.bind_some, ev_z0, ev_z1]
  simp only [nI_eq (a := l.length - ngr l) (b := l'.length - ngr l') (by omega) (by omega), nI_eq (a := ngr l) (b := ngr l') (by omega) (by omega), nI_leI (a := nnr l) (b := nnr l') (by omega) (by omega), nI_leI (a := ngr l) (b := ngr l') (by omega) (by omega), nI_leI (a := l.length - ngr l) (b := l'.length - ngr l') (by omega) (by omega)]
  unfold Wt
  by_cases c1 : l.length - ngr l = l'.length - ngr l'
  · rw [if_pos c1]
    by_cases c2 : ngr l = ngr l'
    · rw [if_pos c2]
      by_cases c3 : nnr l ≤ nnr l'
      · rw [if_pos c3, decide_eq_false (by omega)]; rfl
      · rw [if_neg c3, decide_eq_true (by omega)]; rfl
    · rw [if_neg c2]
      by_cases c3 : ngr l ≤ ngr l'
      · rw [if_pos c3, decide_eq_false (by omega)]; rfl
      · rw [if_neg c3, decide_eq_true (by omega)]; rfl
  · rw [if_neg c1]
    by_cases c3 : l.length - ngr l ≤ l'.length - ngr l'
    · rw [if_pos c3, decide_eq_false (by omega)]; rfl
    · rw [if_neg c3, decide_eq_true (by omega)]; rfl
theorem cs_endsAt {M : gk_M} {a n : Nat} {P : Nat → Int32} (h : txM M a n P) {j : Nat} (hj : j ≤ n) : fn_Text_endsAt (some a) (nI j) M = some (b2 (en n P j), M) := by
  have hh := cs_has h (k := j) (by have := h.1; omega) 47
  obtain ⟨hn, ⟨fs, hob⟩, hlen, -⟩ := h
  simp only [fn_Text_endsAt, hlen, Option.bind_some, hob, hh, b2_d0, fn_Text_endsAt_28, fn_Text_endsAt_32, ev_z0, ev_z1]
  by_cases c1 : j = n
  · rw [if_pos (by rw [c1])]; simp [en, c1, b2]
  · rw [if_neg (fun h => c1 (nI_in2 (by omega) (by omega) h))]
    obtain ⟨k, rfl⟩ : ∃ k, n = k + 1 := ⟨n - 1, by omega⟩
    rw [nI_pred]
    by_cases c2 : j = k
    · subst c2
      rw [if_pos rfl]
      by_cases c3 : P j = 47
      · simp [en, c3, b2]
      · simp [en, c3, b2]
    · rw [if_neg (fun h => c2 (nI_in2 (by omega) (by omega) h))]
      simp [en, c1, c2, b2]
theorem ms_ends {z : Nat} {D : gk_M} {t : sd_S} {u : mo_S} {n j : Nat} {P : Nat → Int32} (hn : n ≤ 24) (h29 : u.1 29 = nI n) (hP : ∀ i, i < n → u.2.2 28 i = P i) (hj : j ≤ n) : fn_Mo_ends (some (z + 27)) (nI j) (me z D t u) = some (b2 (en n P j), me z D t u) := by
  simp only [fn_Mo_ends, mo_gi_29, h29, Option.bind_some, mo_gr_28, fn_Mo_ends_29, fn_Mo_ends_33, ev_z0, ev_z1]
  by_cases c1 : j = n
  · rw [if_pos (by rw [c1])]; simp [en, c1, b2]
  · rw [if_neg (fun h => c1 (nI_in2 (by omega) (by omega) h))]
    obtain ⟨k, rfl⟩ : ∃ k, n = k + 1 := ⟨n - 1, by omega⟩
    rw [nI_pred]
    by_cases c2 : j = k
    · subst c2
      rw [if_pos rfl, mo_il_28 (by omega), Option.bind_some, hP j (by omega)]
      by_cases c3 : P j = 47
      · simp [en, c3, b2]
      · simp [en, c3, b2]
    · rw [if_neg (fun h => c2 (nI_in2 (by omega) (by omega) h))]
      simp [en, c1, c2, b2]
theorem ms_weight {z : Nat} {D : gk_M} {t : sd_S} {u : mo_S} {T : Nat} (hT : T < 26) (h : tgd u.2.2 T) : ∃ u', uq u u' ∧ fn_Mo_weight (some (z + 27)) (nI T) (me z D t u) = some (nI (Wt (tl u.2.2 T)), me z D t u') := by
  obtain ⟨h1, h2, h3, -⟩ := h
  obtain ⟨A, hA1, hA2⟩ := ms_cut (z := z) (D := D) (t := t) hT h1 h2 h3
  have hA1 : fn_Mo_cut (some (z + 27)) (nI T) (me z D t u) = some (me z D t (upd u.1 47 (nI (tl u.2.2 T).length), u.2.1, setA u.2.2 48 A)) := hA1
  have hA2 : ∀ i, i < (tl u.2.2 T).length → A i = (tl u.2.2 T).getD i 0 := hA2
  have hl24 : (tl u.2.2 T).length ≤ 24 := by
    have := pk_len (m := tm u.2.2 T) (f := tx u.2.2 T)
    exact Nat.le_trans this h2
  generalize tl u.2.2 T = l at hA1 hA2 hl24
  refine ⟨(upd u.1 47 (nI l.length), u.2.1, setA u.2.2 48 A), ⟨fun k k1 _ => pk_un k1, rfl, fun k k1 _ _ _ => setA_ne _ _ k1⟩, ?_⟩
  simp only [fn_Mo_weight, mo_ob, Option.bind_some, hA1, fn_Mo_weight_12]
  obtain ⟨a', w, h4, h5⟩ := lp_to (body := fun (kk : Option Nat × Int32 × Int32 × Int32 × gk_M → Option (Int32 × gk_M)) a => fn_Mo_weight_12_bd (fun a0 x2 x3 x4 M => kk (a0, x2, x3, x4, M)) a.1 a.2.1 a.2.2.1 a.2.2.2.1 a.2.2.2.2) (fun p st => p ≤ l.length ∧ st = (some (z + 27), nI (p - ngr (l.take p)), nI (nnr (l.take p)), nI p, me z D t (upd u.1 47 (nI l.length), u.2.1, setA u.2.2 48 A))) l.length (fun p st hp hst => by
    obtain ⟨-, rfl⟩ := hst
    have htk : l.take (p + 1) = l.take p ++ [l.getD p 0] := by
      rw [List.take_succ_eq_append_getElem hp]
      simp [List.getD, hp]
    have hrd : gk_il (me z D t (upd u.1 47 (nI l.length), u.2.1, setA u.2.2 48 A)) 0 (some (z + 55)) (nI p) = some (l.getD p 0) := by
      rw [mo_il_48 (by omega), ← hA2 p hp]; rfl
    have hng := ngr_le (l.take p)
    rw [List.length_take_of_le (by omega)] at hng
    refine ⟨_, ⟨by omega, rfl⟩, fun kk => ?_⟩
    rw [htk, ngr_app, nnr_app]
    simp only [fn_Mo_weight_12_bd, mo_gi_47, pk_us, Option.bind_some, if_neg (nI_ge hp (by omega)), mo_gr_48, hrd, fn_Mo_weight_38, fn_Mo_weight_63, fn_Mo_weight_68]
    by_cases c1 : l.getD p 0 ≤ 3
    · have k1 : p + 1 - (ngr (l.take p) + 1) = p - ngr (l.take p) := by omega
      simp only [if_pos c1, k1, Int32.add_zero]
      by_cases c2 : l.getD p 0 = 2
      · simp only [c2, true_or, if_true, nI_1]
      · by_cases c3 : l.getD p 0 = 3
        · simp only [c3, or_true, if_true, if_neg c2, nI_1]
          rw [if_neg (by decide)]
        · simp only [c2, c3, or_self, if_false, nI_1, Int32.add_zero, Nat.add_zero]
    · have k1 : p + 1 - ngr (l.take p) = p - ngr (l.take p) + 1 := by omega
      have c2 : ¬ l.getD p 0 = 2 := fun h => c1 (by rw [h]; decide)
      have c3 : ¬ l.getD p 0 = 3 := fun h => c1 (by rw [h]; decide)
      simp only [if_neg c1, k1, c2, c3, or_self, if_false, nI_1, Int32.add_zero, Nat.add_zero]) l.length 0 gk_fuel (some (z + 27), 0, 0, 0, me z D t (upd u.1 47 (nI l.length), u.2.1, setA u.2.2 48 A)) (by omega) (by unfold gk_fuel; omega) ⟨by omega, rfl⟩
  rw [h5]
  obtain ⟨-, rfl⟩ := h4
  rw [List.take_length]
  have hng := ngr_le l
  simp only [fn_Mo_weight_12_bd, mo_gi_47, pk_us, Option.bind_some, if_pos (Int32.le_refl _)]
  rw [nI_sub (show l.length - ngr l ≤ l.length by omega), show l.length - (l.length - ngr l) = ngr l by omega, show (100 : Int32) = nI 100 from rfl, show (10 : Int32) = nI 10 from rfl, nI_mul, nI_mul, nI_add, nI_add]
  rfl
