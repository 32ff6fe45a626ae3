theorem lp_toK {α β κ : Type} {body : κ → (α → Option β) → α → Option β} (I : Nat → α → Prop) (n : Nat) (step : ∀ i a, i < n → I i a → ∃ a', I (i + 1) a' ∧ ∀ K kk, body K kk a = kk a') : ∀ (k i F : Nat) (a : α), i + k = n → k < F → I i a → ∃ (a' : α) (m : Nat), I n a' ∧ ∀ K, gk_loop (body K) F a = body K (gk_loop (body K) m) a'
  | 0, i, F, a, h, hF, hI => by
    obtain ⟨m, rfl⟩ : ∃ m, F = m + 1 := ⟨F - 1, by omega⟩
    have : i = n := by omega
    subst this
    exact ⟨a, m, hI, fun _ => rfl⟩
  | k + 1, i, F, a, h, hF, hI => by
    obtain ⟨m, rfl⟩ : ∃ m, F = m + 1 := ⟨F - 1, by omega⟩
    obtain ⟨a', hI', hs⟩ := step i a (by omega) hI
    obtain ⟨a'', m', h1, h2⟩ := lp_toK I n step k (i + 1) m a' (by omega) (by omega) hI'
    exact ⟨a'', m', h1, fun K => by rw [gk_loop_s, hs, h2]⟩
theorem cs_down {M : gk_M} {n s : Nat} {x3 : Int32} {C : Nat → Bool} (hn : n ≤ 24) (hs : s ≤ n + 1) (hC : ∀ e, s ≤ e → e ≤ n → hl x3 e = C e) : ∀ e, e ≤ n → ∀ F, e + 1 < F → gk_loop (α := Int32 × Int32 × Int32 × gk_M) (fun kk a => fn_Fit_lastEnd_70_bd (fun x3 x4 x6 M => kk (x3, x4, x6, M)) a.1 a.2.1 a.2.2.1 a.2.2.2) F (x3, nI s, nI e, M) = some (oI (qg (fun e => decide (s ≤ e) && C e) e), M) := by
  intro e
  induction e with
  | zero =>
    intro _ F hF
    obtain ⟨m, rfl⟩ : ∃ m, F = m + 1 + 1 := ⟨F - 2, by omega⟩
    by_cases h1 : s = 0
    · subst h1
      cases hc : C 0 with
      | true => simp [gk_loop_s, fn_Fit_lastEnd_70_bd, cs_holds, hC 0 (Nat.le_refl _) (by omega), hc, b2_t, fn_Fit_lastEnd_92, qg, oI]
      | false =>
        have e1 : (nI 0 + -1) < nI 0 := by decide
        simp only [gk_loop_s, fn_Fit_lastEnd_70_bd, Int32.lt_irrefl, if_false, cs_holds, hC 0 (Nat.le_refl _) (by omega), hc, b2_f, Option.bind_some, if_true, e1, fn_Fit_lastEnd_92, qg, oI, Bool.and_false, Bool.false_eq_true]
    · have h2 : nI 0 < nI s := nI_lt (by omega) (by omega)
      simp [gk_loop_s, fn_Fit_lastEnd_70_bd, h2, fn_Fit_lastEnd_92, qg, h1, oI]
  | succ e ih =>
    intro he F hF
    obtain ⟨m, rfl⟩ : ∃ m, F = m + 1 := ⟨F - 1, by omega⟩
    by_cases h1 : e + 1 < s
    · have h2 : nI (e + 1) < nI s := nI_lt h1 (by omega)
      rw [qg_none (fun i hi => by simp only [show ¬ s ≤ i by omega, decide_false, Bool.false_and])]
      simp only [gk_loop_s, fn_Fit_lastEnd_70_bd, if_pos h2, fn_Fit_lastEnd_92, oI]
    · have h2 : ¬ nI (e + 1) < nI s := nI_nlt (by omega) (by omega)
      cases hc : C (e + 1) with
      | true => simp [gk_loop_s, fn_Fit_lastEnd_70_bd, h2, cs_holds, hC (e + 1) (by omega) (by omega), hc, b2_t, fn_Fit_lastEnd_92, qg, oI, show s ≤ e + 1 by omega]
      | false =>
        have := ih (by omega) m (by omega)
        rw [gk_loop_s]
        simp only [fn_Fit_lastEnd_70_bd, if_neg h2, cs_holds, hC (e + 1) (by omega) (by omega), hc, b2_f, Option.bind_some, if_true, m1_nI, qg, Bool.and_false, Bool.false_eq_true, if_false]
        exact this
theorem cs_lastEnd {M : gk_M} {a n : Nat} {P : Nat → Int32} (h : txM M a n P) {p : Int32} {j : Nat} (hj : j ≤ n) {x3 : Int32} {C : Nat → Bool} (hC : ∀ e, j ≤ e → e ≤ n → hl x3 e = C e) : fn_Fit_lastEnd p (some a) (nI j) x3 M = some (oI (qL n P p C j), M) := by
  obtain ⟨hn, ⟨fs, hob⟩, hlen, c, hch, hrd⟩ := h
  have hjs : j ≤ qs p j := by unfold qs; split <;> omega
  have hsn : qs p j ≤ n + 1 := by unfold qs; split <;> omega
  obtain ⟨e1, e2, e3⟩ := qe_spec n P p j
  have e4 := qe_le P p hj
  have hll := ql_le n p j
  have hup : fn_Fit_lastEnd_43 p (some a) x3 (nI (qs p j)) (nI (ql n p j)) (nI j) M = some (oI (qL n P p C j), M) := by
    unfold fn_Fit_lastEnd_43
    obtain ⟨a', m, h1, h2⟩ := lp_to (body := fun (kk : Int32 × Option Nat × Int32 × Int32 × Int32 × Int32 × gk_M → Option (Int32 × gk_M)) a => fn_Fit_lastEnd_43_bd (fun x0 a1 x3 x4 x5 x6 M => kk (x0, a1, x3, x4, x5, x6, M)) a.1 a.2.1 a.2.2.1 a.2.2.2.1 a.2.2.2.2.1 a.2.2.2.2.2.1 a.2.2.2.2.2.2) (fun e st => j ≤ e ∧ st = (p, some a, x3, nI (qs p j), nI (ql n p j), nI e, M)) (qe n P p j) (fun i st hi hst => by
      obtain ⟨hji, rfl⟩ := hst
      obtain ⟨g1, g2⟩ := e2 i hji hi
      refine ⟨_, ⟨by omega, rfl⟩, fun kk => ?_⟩
      simp only [fn_Fit_lastEnd_43_bd, if_neg (nI_ge g1 (by omega)), hch, Option.bind_some, hrd i (by omega), cs_mayHold, g2, b2_t, if_neg e10, nI_1]) (qe n P p j - j) j gk_fuel (p, some a, x3, nI (qs p j), nI (ql n p j), nI j, M) (by omega) (by unfold gk_fuel; omega) ⟨Nat.le_refl _, rfl⟩
    rw [h2]
    obtain ⟨-, rfl⟩ := h1
    have hd := cs_down (M := M) (x3 := x3) hn hsn (C := C) (fun e h1 h2 => hC e (by omega) h2) (qe n P p j) e4 gk_fuel (by unfold gk_fuel; omega)
    by_cases g : qe n P p j < ql n p j
    · have g2 : qo p (P (qe n P p j)) = false := by
        cases hq : qo p (P (qe n P p j)) with
        | false => rfl
        | true => exact absurd ⟨g, hq⟩ e3
      simp only [fn_Fit_lastEnd_43_bd, if_neg (nI_ge g (by omega)), hch, Option.bind_some, hrd _ (show qe n P p j < 24 by omega), cs_mayHold, g2, b2_f, if_true, fn_Fit_lastEnd_70]
      exact hd
    · simp only [fn_Fit_lastEnd_43_bd, if_pos (nI_le (show ql n p j ≤ qe n P p j by omega) (by omega)), fn_Fit_lastEnd_70]
      exact hd
  have h12 : fn_Fit_lastEnd_12 p (some a) (nI j) x3 (nI (qs p j)) M = some (oI (qL n P p C j), M) := by
    rw [← hup]
    simp only [fn_Fit_lastEnd_12, cs_isGroup, Option.bind_some, b2_d0, hlen, fn_Fit_lastEnd_38]
    by_cases hp : p ≤ 3
    · simp only [hp, not_true_eq_false, if_false, ql, if_true]
    · simp only [hp, not_false_eq_true, if_true, ql, if_false, nI_1]
      by_cases hjn : j + 1 < n
      · rw [if_pos (nI_lt hjn (by omega)), Nat.min_eq_right (by omega)]
      · rw [if_neg (nI_nlt (by omega) (by omega)), Nat.min_eq_left (by omega)]
  unfold fn_Fit_lastEnd
  by_cases hp : p = 3
  · rw [if_pos hp]
    have : qs p j = j := by simp [qs, hp]
    rw [this] at h12
    exact h12
  · rw [if_neg hp, nI_1]
    have : qs p j = j + 1 := by simp [qs, hp]
    rw [this] at h12
    exact h12
theorem tpl_rd {z : Nat} {D : gk_M} {a : Nat} {l : List Int32} (h : tpl z D a l) : ∃ p, (∀ t u, gk_gr (me z D t u) 2 0 (some a) = some (some p)) ∧ (∀ t u i, i < l.length → gk_il (me z D t u) 0 (some p) (nI i) = some (l.getD i 0)) ∧ (∀ t u, gk_gi (me z D t u) 2 1 (some a) = some (nI l.length)) ∧ (∀ t u, gk_gi (me z D t u) 2 2 (some a) = some (nI (l.length - ngr l))) ∧ (∀ t u, gk_gi (me z D t u) 2 3 (some a) = some (nI (ngr l))) ∧ (∀ t u, gk_gi (me z D t u) 2 4 (some a) = some (nI (nnr l))) ∧ l.length ≤ 24 := by
  obtain ⟨ha, p, L, g, hp, h1, h2, h3, h4, h5⟩ := h
  refine ⟨p, fun t u => ?_, fun t u i hi => ?_, fun t u => ?_, fun t u => ?_, fun t u => ?_, fun t u => ?_, by omega⟩
  · rw [dy_gr ha]; simp [gk_gr, h1, gk_ref]
  · rw [dy_il hp]
    simp only [gk_il, h2, Option.bind_some]
    rw [if_pos (nI_in (by omega) (by omega)), nI_clamp (by omega), h5 i hi]
  · rw [dy_gi ha]; exact ob_gi h1 rfl
  · rw [dy_gi ha]; exact ob_gi h1 rfl
  · rw [dy_gi ha]; exact ob_gi h1 rfl
  · rw [dy_gi ha]; exact ob_gi h1 rfl
