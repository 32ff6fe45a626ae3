def setA (A : Nat → Nat → Int32) (i : Nat) (f : Nat → Int32) : Nat → Nat → Int32 := fun a => if a = i then f else A a
theorem setA_self (A : Nat → Nat → Int32) (i : Nat) (f : Nat → Int32) : setA A i f i = f := by simp [setA]
theorem setA_ne (A : Nat → Nat → Int32) {i a : Nat} (f : Nat → Int32) (h : a ≠ i) : setA A i f a = A a := by simp [setA, h]
theorem setA_up (A : Nat → Nat → Int32) (i : Nat) (f : Nat → Int32) (j : Nat) (x : Int32) : up2 (setA A i f) i j x = setA A i (upd f j x) := by
  funext a
  unfold up2
  by_cases h : a = i
  · rw [if_pos h]; subst h; rw [setA_self, setA_self]
  · rw [if_neg h, setA_ne _ _ h, setA_ne _ _ h]
theorem setA_id (A : Nat → Nat → Int32) (i : Nat) : setA A i (A i) = A := by
  funext a
  by_cases h : a = i
  · subst h; rw [setA_self]
  · rw [setA_ne _ _ h]
theorem ob_gi {D : gk_M} {ci o k : Nat} {fs : List Value} {x : Int32} (h : gk_ob D ci (some o) = some fs) (hk : fs[k]? = some (.int x)) : gk_gi D ci k (some o) = some x := by
  simp [gk_gi, h, hk, gk_int]
theorem m1_nI (k : Nat) : nI (k + 1) + (-1) = nI k := by
  rw [nI_succ, Int32.add_assoc, show (1 : Int32) + -1 = 0 by decide, Int32.add_zero]
theorem gk_loop_s {α β : Type} (body : (α → Option β) → α → Option β) (n : Nat) (a : α) : gk_loop body (n + 1) a = body (gk_loop body n) a := rfl
theorem ins_r {z : Nat} {D : gk_M} {t : sd_S} {u : mo_S} {d n : Nat} {pr : Nat → Int32} {ρ : Nat → Nat} {x1 : Int32} {A : Nat → Int32} (hf : ∀ f, f < n → ∃ o, t.2.2 8 f = some o ∧ z + 61 ≤ o ∧ gk_gi D 6 0 (some o) = some (pr f)) (hd : z + 61 ≤ d) (hx : gk_gi D 6 0 (some d) = some x1) (hn : n < 8) (hA : ∀ i, i < n → A i = nI (ρ i) ∧ ρ i < n) : ∀ k, k ≤ n → ∀ A' : Nat → Int32, (∀ i, i < k → A' i = A i) → (∀ i, k < i → i ≤ n → A' i = A (i - 1)) → (∀ i, k ≤ i → i < n → x1 < pr (ρ i)) → ∀ m, k < m → ∃ (k' : Nat) (A'' : Nat → Int32), k' ≤ n ∧ (∀ i, i < k' → A'' i = A i) ∧ (∀ i, k' < i → i ≤ n → A'' i = A (i - 1)) ∧ (∀ i, k' ≤ i → i < n → x1 < pr (ρ i)) ∧ (0 < k' → pr (ρ (k' - 1)) ≤ x1) ∧ gk_loop (α := Option Nat × Option Nat × Int32 × gk_M) (fun kk a => fn_FilterChain_add_5_bd (fun a0 a1 x2 M => kk (a0, a1, x2, M)) a.1 a.2.1 a.2.2.1 a.2.2.2) m (some (z + 7), some d, nI k, me z D (t.1, setA t.2.1 9 A', t.2.2) u) = fn_FilterChain_add_52 (some (z + 7)) (some d) (nI k') (me z D (t.1, setA t.2.1 9 A'', t.2.2) u) := by
  intro k
  induction k with
  | zero =>
    intro _ A' h1 h2 h3 m hm
    obtain ⟨m, rfl⟩ : ∃ q, m = q + 1 := ⟨m - 1, by omega⟩
    refine ⟨0, A', by omega, h1, h2, h3, fun h => absurd h (by omega), ?_⟩
    simp only [gk_loop_s, fn_FilterChain_add_5_bd, nI_0, Int32.le_refl, if_true]
  | succ k ih =>
    intro hk A' h1 h2 h3 m hm
    obtain ⟨m, rfl⟩ : ∃ q, m = q + 1 := ⟨m - 1, by omega⟩
    obtain ⟨a1, a2⟩ := hA k (by omega)
    obtain ⟨o, o1, o2, o3⟩ := hf (ρ k) a2
    have eA : A' k = nI (ρ k) := by rw [h1 k (by omega), a1]
    by_cases hs : pr (ρ k) ≤ x1
    · refine ⟨k + 1, A', hk, h1, h2, h3, fun _ => hs, ?_⟩
      simp only [gk_loop_s, fn_FilterChain_add_5_bd, if_neg (nI_nle (n := k + 1) (by omega) (by omega)), sd_gr_7_0, sd_gr_7_1, Option.bind_some, nI_pred, sd_il_9 (j := k) (by omega), setA_self, eA, sd_al_8 (j := ρ k) (by omega), o1, dy_gi o2, o3, dy_gi hd, hx, if_pos hs]
    · obtain ⟨k', A'', q1, q2, q3, q4, q5, q6⟩ := ih (by omega) (upd A' (k + 1) (nI (ρ k))) (fun i hi => by rw [pk_un (by omega), h1 i (by omega)]) (fun i hi hi' => by
        by_cases e : i = k + 1
        · subst e; rw [pk_us, Nat.add_sub_cancel, a1]
        · rw [pk_un e, h2 i (by omega) hi']) (fun i hi hi' => by
        by_cases e : i = k
        · subst e; rw [← i_nle]; exact hs
        · exact h3 i (by omega) hi') m (by omega)
      refine ⟨k', A'', q1, q2, q3, q4, q5, ?_⟩
      rw [← q6]
      simp only [gk_loop_s, fn_FilterChain_add_5_bd, if_neg (nI_nle (n := k + 1) (by omega) (by omega)), sd_gr_7_0, sd_gr_7_1, Option.bind_some, nI_pred, sd_il_9 (j := k) (by omega), setA_self, eA, sd_al_8 (j := ρ k) (by omega), o1, dy_gi o2, o3, dy_gi hd, hx, if_neg hs, sd_is_9 (j := k + 1) (by omega), setA_up, nar_int, m1_nI]
theorem ins_f {z : Nat} {D : gk_M} {t : sd_S} {u : mo_S} {d n : Nat} {pr : Nat → Int32} {ρ : Nat → Nat} {x1 x2 : Int32} {A : Nat → Int32} (hf : ∀ f, f < n → ∃ o, t.2.2 8 f = some o ∧ z + 61 ≤ o ∧ gk_gi D 6 0 (some o) = some (pr f)) (hd : z + 61 ≤ d) (hx : gk_gi D 6 0 (some d) = some x1) (hn : n < 8) (hA : ∀ i, i < n → A i = nI (ρ i) ∧ ρ i < n) : ∀ k, k ≤ n → ∀ A' : Nat → Int32, (∀ i, i < k → A' i = A i) → (∀ i, k < i → i ≤ n → A' i = A (i - 1)) → (∀ i, k ≤ i → i < n → pr (ρ i) < x1) → ∀ m, k < m → ∃ (k' : Nat) (A'' : Nat → Int32), k' ≤ n ∧ (∀ i, i < k' → A'' i = A i) ∧ (∀ i, k' < i → i ≤ n → A'' i = A (i - 1)) ∧ (∀ i, k' ≤ i → i < n → pr (ρ i) < x1) ∧ (0 < k' → x1 ≤ pr (ρ (k' - 1))) ∧ gk_loop (α := Option Nat × Option Nat × Int32 × Int32 × gk_M) (fun kk a => fn_FilterChain_add_57_bd (fun a0 a1 x2 x3 M => kk (a0, a1, x2, x3, M)) a.1 a.2.1 a.2.2.1 a.2.2.2.1 a.2.2.2.2) m (some (z + 7), some d, x2, nI k, me z D (t.1, setA t.2.1 10 A', t.2.2) u) = fn_FilterChain_add_104 (some (z + 7)) (some d) x2 (nI k') (me z D (t.1, setA t.2.1 10 A'', t.2.2) u) := by
  intro k
  induction k with
  | zero =>
    intro _ A' h1 h2 h3 m hm
    obtain ⟨m, rfl⟩ : ∃ q, m = q + 1 := ⟨m - 1, by omega⟩
    refine ⟨0, A', by omega, h1, h2, h3, fun h => absurd h (by omega), ?_⟩
    simp only [gk_loop_s, fn_FilterChain_add_57_bd, nI_0, Int32.le_refl, if_true]
  | succ k ih =>
    intro hk A' h1 h2 h3 m hm
    obtain ⟨m, rfl⟩ : ∃ q, m = q + 1 := ⟨m - 1, by omega⟩
    obtain ⟨a1, a2⟩ := hA k (by omega)
    obtain ⟨o, o1, o2, o3⟩ := hf (ρ k) a2
    have eA : A' k = nI (ρ k) := by rw [h1 k (by omega), a1]
    by_cases hs : x1 ≤ pr (ρ k)
    · refine ⟨k + 1, A', hk, h1, h2, h3, fun _ => hs, ?_⟩
      simp only [gk_loop_s, fn_FilterChain_add_57_bd, if_neg (nI_nle (n := k + 1) (by omega) (by omega)), sd_gr_7_0, sd_gr_7_2, Option.bind_some, nI_pred, sd_il_10 (j := k) (by omega), setA_self, eA, sd_al_8 (j := ρ k) (by omega), o1, dy_gi o2, o3, dy_gi hd, hx, if_pos hs]
    · obtain ⟨k', A'', q1, q2, q3, q4, q5, q6⟩ := ih (by omega) (upd A' (k + 1) (nI (ρ k))) (fun i hi => by rw [pk_un (by omega), h1 i (by omega)]) (fun i hi hi' => by
        by_cases e : i = k + 1
        · subst e; rw [pk_us, Nat.add_sub_cancel, a1]
        · rw [pk_un e, h2 i (by omega) hi']) (fun i hi hi' => by
        by_cases e : i = k
        · subst e; rw [← i_nle]; exact hs
        · exact h3 i (by omega) hi') m (by omega)
      refine ⟨k', A'', q1, q2, q3, q4, q5, ?_⟩
      rw [← q6]
      simp only [gk_loop_s, fn_FilterChain_add_57_bd, if_neg (nI_nle (n := k + 1) (by omega) (by omega)), sd_gr_7_0, sd_gr_7_2, Option.bind_some, nI_pred, sd_il_10 (j := k) (by omega), setA_self, eA, sd_al_8 (j := ρ k) (by omega), o1, dy_gi o2, o3, dy_gi hd, hx, if_neg hs, sd_is_10 (j := k + 1) (by omega), setA_up, nar_int, m1_nI]
theorem srt_ins {n k : Nat} {A A' : Nat → Int32} {lt lt' : Nat → Nat → Prop} {ρ : Nat → Nat} (hA : ∀ i, i < n → A i = nI (ρ i) ∧ ρ i < n) (hl : ∀ i j, i < j → j < n → lt (ρ i) (ρ j)) (hs : ∀ f, f < n → ∃ i, i < n ∧ ρ i = f) (hk : k ≤ n) (a1 : ∀ i, i < k → A' i = A i) (a2 : A' k = nI n) (a3 : ∀ i, k < i → i ≤ n → A' i = A (i - 1)) (b1 : ∀ a b, a < n → b < n → lt a b → lt' a b) (b2 : ∀ i, i < k → lt' (ρ i) n) (b3 : ∀ i, k ≤ i → i < n → lt' n (ρ i)) : srt (n + 1) A' lt' := by
  refine ⟨fun i => if i < k then ρ i else if i = k then n else ρ (i - 1), fun i hi => ?_, fun i j hij hj => ?_, fun f hf => ?_⟩
  · by_cases h1 : i < k
    · simp only [h1, if_true]
      exact ⟨(a1 i h1).trans (hA i (by omega)).1, by have := (hA i (by omega)).2; omega⟩
    · by_cases h2 : i = k
      · subst h2
        simp only [Nat.lt_irrefl, if_false, if_true]
        exact ⟨a2, by omega⟩
      · simp only [h1, h2, if_false]
        exact ⟨(a3 i (by omega) (by omega)).trans (hA (i - 1) (by omega)).1, by have := (hA (i - 1) (by omega)).2; omega⟩
  · have h := fun q hq => (hA q hq).2
    by_cases h1 : j < k
    · have h1' : i < k := by omega
      simp only [h1, h1', if_true]
      exact b1 _ _ (h _ (by omega)) (h _ (by omega)) (hl i j hij (by omega))
    · by_cases h2 : j = k
      · have h1' : i < k := by omega
        simp only [h1', h1, h2, Nat.lt_irrefl, if_true, if_false]
        exact b2 i h1'
      · simp only [h1, h2, if_false]
        by_cases h3 : i < k
        · simp only [h3, if_true]
          exact b1 _ _ (h _ (by omega)) (h _ (by omega)) (hl i (j - 1) (by omega) (by omega))
        · by_cases h4 : i = k
          · simp only [h4, Nat.lt_irrefl, if_true, if_false]
            exact b3 (j - 1) (by omega) (by omega)
          · simp only [h3, h4, if_false]
            exact b1 _ _ (h _ (by omega)) (h _ (by omega)) (hl (i - 1) (j - 1) (by omega) (by omega))
  · by_cases h1 : f = n
    · exact ⟨k, by omega, by simp only [Nat.lt_irrefl, if_false, if_true, h1]⟩
    · obtain ⟨i, hi, hr⟩ := hs f (by omega)
      by_cases h2 : i < k
      · exact ⟨i, by omega, by simp only [h2, if_true, hr]⟩
      · exact ⟨i + 1, by omega, by simp only [show ¬ i + 1 < k by omega, show ¬ i + 1 = k by omega, if_false, Nat.add_sub_cancel, hr]⟩
def fcnd (n : Nat) (x1 x2 x3 x5 : Int32) : Bool := decide (n < 8) && (wi x1 0 99 && (wi x2 0 3 && (wi x3 0 2 && (wi x5 0 5 || wi x5 100 599))))
theorem cs_filter {z : Nat} {D : gk_M} {t : sd_S} {u : mo_S} {n : Nat} (h : t.1 4 = nI n) (hn : n ≤ 8) (x1 x2 x3 x4 x5 : Int32) : fn_SD_filter (some z) x1 x2 x3 x4 x5 (me z D t u) = fn_SD_filter_61 (some z) x1 x2 x3 x4 x5 (b2 (fcnd n x1 x2 x3 x5)) (me z D t u) := by
  simp only [fn_SD_filter, sd_gr_0_2, sd_gi_4, h, Option.bind_some, cs_within, cs_isVerb, cs_isStatus, b2_0, fn_SD_filter_60, fn_SD_filter_56, e8_of hn, fcnd]
  by_cases h1 : n < 8 <;> cases wi x1 0 99 <;> cases wi x2 0 3 <;> cases wi x3 0 2 <;> cases wi x5 0 5 <;> cases wi x5 100 599 <;> simp [h1, b2]
theorem ms_filter {z : Nat} {D : gk_M} {t : sd_S} {u : mo_S} {n : Nat} (h : u.1 17 = nI n) (hn : n ≤ 8) (x1 x2 x3 x4 x5 : Int32) : fn_Mo_filter (some (z + 27)) x1 x2 x3 x4 x5 (me z D t u) = fn_Mo_filter_65 (some (z + 27)) x1 x2 x3 x4 x5 (b2 (fcnd n x1 x2 x3 x5)) (me z D t u) := by
  simp only [fn_Mo_filter, mo_gi_17, h, Option.bind_some, ms_outside, b2_0, fn_Mo_filter_64, fn_Mo_filter_51, e8_of hn, fcnd]
  by_cases h1 : n < 8 <;> cases wi x1 0 99 <;> cases wi x2 0 3 <;> cases wi x3 0 2 <;> cases wi x5 0 5 <;> cases wi x5 100 599 <;> simp [h1, b2]
