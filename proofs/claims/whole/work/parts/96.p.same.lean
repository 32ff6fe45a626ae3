theorem getD_ext {l l' : List Int32} (h : l.length = l'.length) (h2 : ∀ i, i < l.length → l.getD i 0 = l'.getD i 0) : l = l' := by
  apply List.ext_getElem h
  intro i h3 h4
  have := h2 i h3
  simpa [List.getD, h3, h4] using this
theorem cs_same {z : Nat} {D : gk_M} {t : sd_S} {u : mo_S} {a b : Nat} {l l' : List Int32} (h : tpl z D a l) (h' : tpl z D b l') : fn_Template_isSameAs (some a) (some b) (me z D t u) = some (b2 (decide (l = l')), me z D t u) := by
  obtain ⟨p, a1, a2, a3, -, -, -, al⟩ := tpl_rd h
  obtain ⟨q, b1, b2', b3, -, -, -, bl⟩ := tpl_rd h'
  simp only [fn_Template_isSameAs, a3, b3, Option.bind_some, nI_eq (a := l.length) (b := l'.length) (by omega) (by omega), ev_z0]
  by_cases c : l.length = l'.length
  · rw [if_pos c]
    unfold fn_Template_isSameAs_15
    rcases lp_or (body := fun (kk : Option Nat × Option Nat × Int32 × gk_M → Option (Int32 × gk_M)) a => fn_Template_isSameAs_15_bd (fun a0 a1 x2 M => kk (a0, a1, x2, M)) a.1 a.2.1 a.2.2.1 a.2.2.2) (fun i st => st = (some a, some b, nI i, me z D t u) ∧ ∀ j, j < i → l.getD j 0 = l'.getD j 0) (fun y => y = some (b2 (decide (l = l')), me z D t u)) l.length (fun i st hi hst => by
      obtain ⟨rfl, hj⟩ := hst
      by_cases ce : l.getD i 0 = l'.getD i 0
      · left
        refine ⟨_, ⟨rfl, fun j hj' => ?_⟩, fun kk => ?_⟩
        · by_cases e : j = i
          · subst e; exact ce
          · exact hj j (by omega)
        · simp only [fn_Template_isSameAs_15_bd, a3, Option.bind_some, if_neg (nI_ge hi (by omega)), a1, a2 _ _ i hi, b1, b2' _ _ i (by omega), if_pos ce, nI_1]
      · right
        refine ⟨some (0, me z D t u), ?_, fun kk => ?_⟩
        · rw [decide_eq_false (fun he => ce (by rw [he]))]; rfl
        · simp only [fn_Template_isSameAs_15_bd, a3, Option.bind_some, if_neg (nI_ge hi (by omega)), a1, a2 _ _ i hi, b1, b2' _ _ i (by omega), if_neg ce, ev_z0]) l.length 0 gk_fuel (some a, some b, 0, me z D t u) (by omega) (by unfold gk_fuel; omega) ⟨rfl, fun j hj => absurd hj (by omega)⟩ with hR | ⟨a', w, ⟨rfl, hj⟩, h2⟩
    · exact hR
    · rw [h2, decide_eq_true (getD_ext c hj)]
      simp only [fn_Template_isSameAs_15_bd, a3, Option.bind_some, if_pos (Int32.le_refl _), ev_z1, b2_t]
  · rw [if_neg c, decide_eq_false (fun he => c (by rw [he]))]
    rfl
theorem cut_d {m : Nat} {f : Nat → Int32} {k : Nat} (h : psz m f k = 3) : f (k + 2) = 125 ∧ k + 2 < m := by
  unfold psz at h
  split at h
  · omega
  · split at h
    · omega
    · split at h
      · omega
      · split at h
        · rename_i c; exact ⟨c.2.2, c.2.1⟩
        · omega
theorem pk_inj {m m' : Nat} {f f' : Nat → Int32} (hk : ∀ i, i < m → kc (f i) = true) (hk' : ∀ i, i < m' → kc (f' i) = true) : ∀ (d k k' : Nat), m - k ≤ d → gd m f k = true → gd m' f' k' = true → pk m f k = pk m' f' k' → m - k = m' - k' ∧ ∀ i, i < m - k → f (k + i) = f' (k' + i) := by
  intro d
  induction d with
  | zero =>
    intro k k' h1 h2 h3 h4
    rw [pk_nil (by omega)] at h4
    by_cases c : k' < m'
    · rw [pk_cons c] at h4; cases h4
    · exact ⟨by omega, fun i hi => absurd hi (by omega)⟩
  | succ d ih =>
    intro k k' h1 h2 h3 h4
    by_cases c0 : k < m
    · by_cases c : k' < m'
      · rw [pk_cons c, pk_cons c0] at h4
        injection h4 with h5 h6
        rw [gd_cons c0, Bool.and_eq_true, decide_eq_true_eq] at h2
        rw [gd_cons c, Bool.and_eq_true, decide_eq_true_eq] at h3
        rw [Nat.max_eq_right h2.1] at h6 h2
        rw [Nat.max_eq_right h3.1] at h6 h3
        have i1 := psz_in (n := m) (f := f) c0
        have i2 := psz_in (n := m') (f := f') c
        obtain ⟨r1, r2⟩ := ih (k + psz m f k) (k' + psz m' f' k') (by omega) h2.2 h3.2 h6
        have b1 := kc_big (hk k c0)
        have b2 := kc_big (hk' k' c)
        have n1 : (1 : Int32) ≤ 3 := by decide
        have n2 : (2 : Int32) ≤ 3 := by decide
        have n3 : (3 : Int32) ≤ 3 := by decide
        have fin : ∀ s, psz m f k = s → psz m' f' k' = s → (∀ i, i < s → f (k + i) = f' (k' + i)) → m - k = m' - k' ∧ ∀ i, i < m - k → f (k + i) = f' (k' + i) := by
          intro s e1 e2 e3
          rw [e1, e2] at r1
          rw [e1] at i1
          rw [e2] at i2
          refine ⟨by omega, fun i hi => ?_⟩
          by_cases ci : i < s
          · exact e3 i ci
          · have := r2 (i - s) (by rw [e1]; omega)
            rw [e1, e2, show k + s + (i - s) = k + i by omega, show k' + s + (i - s) = k' + i by omega] at this
            exact this
        rcases cut_c h2.1 with ⟨p1, p2, p3⟩ | ⟨p1, p2, p3⟩
        · rcases cut_c h3.1 with ⟨q1, q2, q3⟩ | ⟨q1, q2, q3⟩
          · refine fin 1 p2 q2 fun i hi => ?_
            have : i = 0 := by omega
            subst this
            rw [Nat.add_zero, Nat.add_zero, ← p3, ← q3, h5]
          · exfalso
            rw [p3] at h5
            rcases q3 with ⟨-, -, q⟩ | ⟨-, -, q⟩ | ⟨-, -, q⟩ <;> rw [q] at h5 <;> rw [h5] at b1 <;> exact b1 (by decide)
        · rcases cut_c h3.1 with ⟨q1, q2, q3⟩ | ⟨q1, q2, q3⟩
          · exfalso
            rw [q3] at h5
            rcases p3 with ⟨-, -, q⟩ | ⟨-, -, q⟩ | ⟨-, -, q⟩ <;> rw [q] at h5 <;> rw [← h5] at b2 <;> exact b2 (by decide)
          · rcases p3 with ⟨s1, s2, s3⟩ | ⟨s1, s2, s3⟩ | ⟨s1, s2, s3⟩ <;> rcases q3 with ⟨w1, w2, w3⟩ | ⟨w1, w2, w3⟩ | ⟨w1, w2, w3⟩ <;> rw [s3, w3] at h5
            · refine fin 2 s2 w2 fun i hi => ?_
              have : i = 0 ∨ i = 1 := by omega
              rcases this with rfl | rfl
              · rw [Nat.add_zero, Nat.add_zero, p1, q1]
              · rw [s1, w1]
            · exact absurd h5 (by decide)
            · exact absurd h5 (by decide)
            · exact absurd h5 (by decide)
            · refine fin 3 s2 w2 fun i hi => ?_
              have : i = 0 ∨ i = 1 ∨ i = 2 := by omega
              rcases this with rfl | rfl | rfl
              · rw [Nat.add_zero, Nat.add_zero, p1, q1]
              · rw [s1, w1]
              · rw [(cut_d s2).1, (cut_d w2).1]
            · exact absurd h5 (by decide)
            · exact absurd h5 (by decide)
            · exact absurd h5 (by decide)
            · refine fin 3 s2 w2 fun i hi => ?_
              have : i = 0 ∨ i = 1 ∨ i = 2 := by omega
              rcases this with rfl | rfl | rfl
              · rw [Nat.add_zero, Nat.add_zero, p1, q1]
              · rw [s1, w1]
              · rw [(cut_d s2).1, (cut_d w2).1]
      · rw [pk_cons c0, pk_nil (n := m') (by omega)] at h4; cases h4
    · rw [pk_nil (by omega)] at h4
      by_cases c : k' < m'
      · rw [pk_cons c] at h4; cases h4
      · exact ⟨by omega, fun i hi => absurd hi (by omega)⟩
theorem tl_inj {B : Nat → Nat → Int32} {T T' : Nat} (h : tgd B T) (h' : tgd B T') : (tl B T = tl B T') ↔ (tm B T = tm B T' ∧ ∀ i, i < tm B T → tx B T i = tx B T' i) := by
  constructor
  · intro he
    obtain ⟨r1, r2⟩ := pk_inj h.2.2.2.1 h'.2.2.2.1 (tm B T) 0 0 (by omega) h.2.2.1 h'.2.2.1 he
    refine ⟨by omega, fun i hi => ?_⟩
    have := r2 i (by omega)
    rwa [Nat.zero_add] at this
  · rintro ⟨h1, h2⟩
    unfold tl
    rw [← h1]
    exact pcs_congr h2 _ _
theorem ms_same {z : Nat} {D : gk_M} {t : sd_S} {u : mo_S} {T T' : Nat} (hT : T < 26) (hT' : T' < 26) (h : tgd u.2.2 T) (h' : tgd u.2.2 T') : fn_Mo_same (some (z + 27)) (nI T) (nI T') (me z D t u) = some (b2 (decide (tl u.2.2 T = tl u.2.2 T')), me z D t u) := by
  have e := tl_inj h h'
  obtain ⟨h1, h2, -⟩ := h
  obtain ⟨h1', h2', -⟩ := h'
  have e3 : gk_il (me z D t u) 0 (some (z + 30)) (nI T) = some (nI (tm u.2.2 T)) := by rw [mo_il_3 hT, h1]
  have e3' : gk_il (me z D t u) 0 (some (z + 30)) (nI T') = some (nI (tm u.2.2 T')) := by rw [mo_il_3 hT', h1']
  simp only [fn_Mo_same, mo_gr_3, Option.bind_some, e3, e3', nI_eq (a := tm u.2.2 T) (b := tm u.2.2 T') (by omega) (by omega), fn_Mo_same_20]
  by_cases c : tm u.2.2 T = tm u.2.2 T'
  · rw [if_pos c]
    have e' : (tl u.2.2 T = tl u.2.2 T') ↔ ∀ i, i < tm u.2.2 T → tx u.2.2 T i = tx u.2.2 T' i := ⟨fun q => (e.mp q).2, fun q => e.mpr ⟨c, q⟩⟩
    unfold fn_Mo_same_24
    rcases lp_or (body := fun (kk : Option Nat × Int32 × Int32 × Int32 × Int32 × gk_M → Option (Int32 × gk_M)) a => fn_Mo_same_24_bd (fun a0 x1 x2 x3 x4 M => kk (a0, x1, x2, x3, x4, M)) a.1 a.2.1 a.2.2.1 a.2.2.2.1 a.2.2.2.2.1 a.2.2.2.2.2) (fun i st => st = (some (z + 27), nI T, nI T', b2 (decide (∀ j, j < i → tx u.2.2 T j = tx u.2.2 T' j)), nI i, me z D t u)) (fun y => y = some (b2 (decide (tl u.2.2 T = tl u.2.2 T')), me z D t u)) (tm u.2.2 T) (fun i st hi hst => by
      subst hst
      by_cases ca : ∀ j, j < i → tx u.2.2 T j = tx u.2.2 T' j
      · left
        refine ⟨_, rfl, fun kk => ?_⟩
        have k1 : (24 : Int32) * nI T + nI i = nI (24 * T + i) := by rw [e24, nI_add]
        have k2 : (24 : Int32) * nI T' + nI i = nI (24 * T' + i) := by rw [e24, nI_add]
        have r1 : gk_il (me z D t u) 1 (some (z + 29)) (nI (24 * T + i)) = some (tx u.2.2 T i) := mo_il_2 (by omega)
        have r2 : gk_il (me z D t u) 1 (some (z + 29)) (nI (24 * T' + i)) = some (tx u.2.2 T' i) := mo_il_2 (by omega)
        simp only [fn_Mo_same_24_bd, mo_gr_3, Option.bind_some, e3, if_neg (nI_ge hi (by omega)), decide_eq_true ca, b2_t, if_neg e10, mo_gr_2, k1, k2, r1, r2, fn_Mo_same_71, nI_1]
        by_cases cb : tx u.2.2 T i = tx u.2.2 T' i
        · rw [if_pos cb, decide_eq_true (fun j hj => by
            by_cases ej : j = i
            · subst ej; exact cb
            · exact ca j (by omega))]
          rfl
        · rw [if_neg cb, decide_eq_false (fun q => cb (q i (by omega)))]
          rfl
      · right
        refine ⟨some (0, me z D t u), ?_, fun kk => ?_⟩
        · rw [decide_eq_false (fun q => ca (fun j hj => (e'.mp q) j (by omega)))]; rfl
        · simp only [fn_Mo_same_24_bd, mo_gr_3, Option.bind_some, e3, if_neg (nI_ge hi (by omega)), decide_eq_false ca, b2_f, if_true, fn_Mo_same_78, ev_z0]) (tm u.2.2 T) 0 gk_fuel (some (z + 27), nI T, nI T', 1, 0, me z D t u) (by omega) (by unfold gk_fuel; omega) (by rw [decide_eq_true (fun j hj => absurd hj (by omega))]; rfl) with hR | ⟨a', w, rfl, h3⟩
    · exact hR
    · rw [h3]
      simp only [fn_Mo_same_24_bd, mo_gr_3, Option.bind_some, e3, if_pos (Int32.le_refl _), fn_Mo_same_78, b2_z, e']
  · rw [if_neg c, decide_eq_false (fun q => c (e.mp q).1)]
    unfold fn_Mo_same_24 gk_fuel
    rw [gk_loop_s]
    simp only [fn_Mo_same_24_bd, mo_gr_3, Option.bind_some, e3, fn_Mo_same_78, ev_z0, if_true, b2_f, ite_self]
