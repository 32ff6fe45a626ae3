def uq (u u' : mo_S) : Prop := (∀ k, k ≠ 47 → k ≠ 50 → u'.1 k = u.1 k) ∧ u'.2.1 = u.2.1 ∧ ∀ k, k ≠ 48 → k ≠ 49 → k ≠ 51 → k ≠ 52 → u'.2.2 k = u.2.2 k
theorem uq.refl (u : mo_S) : uq u u := ⟨fun _ _ _ => rfl, rfl, fun _ _ _ _ _ => rfl⟩
theorem uq.trans {u u' u'' : mo_S} (h : uq u u') (h' : uq u' u'') : uq u u'' := ⟨fun k a b => (h'.1 k a b).trans (h.1 k a b), h'.2.1.trans h.2.1, fun k a b c d => (h'.2.2 k a b c d).trans (h.2.2 k a b c d)⟩
def mA (X : Nat → Nat → Int32) (K G H : Nat → Int32) : Nat → Nat → Int32 := setA (setA (setA X 49 K) 51 G) 52 H
theorem mA_ne (X : Nat → Nat → Int32) (A G H : Nat → Int32) {k : Nat} (h1 : k ≠ 49) (h2 : k ≠ 51) (h3 : k ≠ 52) : mA X A G H k = X k := by
  unfold mA
  rw [setA_ne _ _ h3, setA_ne _ _ h2, setA_ne _ _ h1]
theorem mA_u51 (X : Nat → Nat → Int32) (A G H : Nat → Int32) (j : Nat) (x : Int32) : up2 (mA X A G H) 51 j x = mA X A (upd G j x) H := by
  funext a
  by_cases h : a = 51
  · subst h; rw [up2_self]; rfl
  · rw [up2_ne _ _ _ h]
    unfold mA
    by_cases h' : a = 52
    · subst h'; rw [setA_self, setA_self]
    · rw [setA_ne _ _ h', setA_ne _ _ h', setA_ne _ _ h, setA_ne _ _ h]
theorem mA_u52 (X : Nat → Nat → Int32) (A G H : Nat → Int32) (j : Nat) (x : Int32) : up2 (mA X A G H) 52 j x = mA X A G (upd H j x) := by
  funext a
  by_cases h : a = 52
  · subst h; rw [up2_self]; rfl
  · rw [up2_ne _ _ _ h]
    unfold mA
    rw [setA_ne _ _ h, setA_ne _ _ h]
theorem mA_0 (X : Nat → Nat → Int32) (A : Nat → Int32) : setA X 49 A = mA X A (X 51) (X 52) := by
  funext a
  unfold mA
  by_cases h : a = 52
  · subst h; rw [setA_self]; rfl
  · rw [setA_ne _ _ h]
    by_cases h' : a = 51
    · subst h'; rw [setA_self]; rfl
    · rw [setA_ne _ _ h']
def gokM (gs : List (Nat × Nat)) (G H : Nat → Int32) : Prop := ∀ k, k < gs.length → G k = nI (gs.getD k (0, 0)).1 ∧ H k = nI ((gs.getD k (0, 0)).2 - (gs.getD k (0, 0)).1)
theorem gokM_app {gs : List (Nat × Nat)} {G H : Nat → Int32} (h : gokM gs G H) (x : Nat × Nat) : gokM (gs ++ [x]) (upd G gs.length (nI x.1)) (upd H gs.length (nI (x.2 - x.1))) := by
  intro k hk
  rw [List.length_append, List.length_singleton] at hk
  by_cases hkl : k = gs.length
  · subst hkl
    rw [pk_us, pk_us, getD_e]
    exact ⟨rfl, rfl⟩
  · rw [pk_un hkl, pk_un hkl, getD_l (by omega)]
    exact h k (by omega)
theorem nar_b1 : vp_nar .boolean 1 = 1 := rfl
theorem nar_b0 : vp_nar .boolean 0 = 0 := rfl
/-- where a template may be matched from -/
theorem ms_can {z : Nat} {D : gk_M} {t : sd_S} {u : mo_S} {n s T : Nat} {P : Nat → Int32} {l : List Int32} (hn : n ≤ 24) (h29 : u.1 29 = nI n) (hP : ∀ i, i < n → u.2.2 28 i = P i) (hl24 : l.length ≤ 24) (h47 : u.1 47 = nI l.length) (hpc : ∀ p, p < l.length → u.2.2 48 p = l.getD p 0) (x1 : Int32) : ∃ (K : Nat → Int32) (w : Nat), fn_Mo_match_7 (some (z + 27)) x1 (nI s) 0 (me z D t u) = fn_Mo_match_66_bd (fun a0 x1 x2 x3 M => gk_loop (α := Option Nat × Int32 × Int32 × Int32 × gk_M) (fun kk a => fn_Mo_match_66_bd (fun a0 x1 x2 x3 M => kk (a0, x1, x2, x3, M)) a.1 a.2.1 a.2.2.1 a.2.2.2.1 a.2.2.2.2) w (a0, x1, x2, x3, M)) (some (z + 27)) x1 (nI s) (-1) (me z D t (u.1, u.2.1, setA u.2.2 49 K)) ∧ ∀ p, p ≤ l.length → ∀ j, j ≤ n → K (25 * p + j) = b2 (qc n P (l.drop p) j) := by
  obtain ⟨a', w, h1, h2⟩ := lp_to (body := fun (kk : Option Nat × Int32 × Int32 × Int32 × gk_M → Option (Int32 × gk_M)) a => fn_Mo_match_7_bd (fun a0 x1 x2 x3 M => kk (a0, x1, x2, x3, M)) a.1 a.2.1 a.2.2.1 a.2.2.2.1 a.2.2.2.2) (fun j st => ∃ K : Nat → Int32, st = (some (z + 27), x1, nI s, nI j, me z D t (u.1, u.2.1, setA u.2.2 49 K)) ∧ ∀ i, i < j → K (25 * l.length + i) = b2 (qc n P [] i)) (n + 1) (fun j st hj hst => by
    obtain ⟨K, rfl, hK⟩ := hst
    have hs1 : ∀ b : Bool, gk_is (me z D t (u.1, u.2.1, setA u.2.2 49 K)) 2 .boolean (some (z + 56)) (nI (25 * l.length + j)) (b2 b) = some (me z D t (u.1, u.2.1, setA u.2.2 49 (upd K (25 * l.length + j) (b2 b)))) := fun b => by
      rw [mo_is_49 (by omega)]; simp only [setA_up]; cases b <;> rfl
    have e1 : (25 : Int32) * nI l.length + nI j = nI (25 * l.length + j) := by rw [e25, nI_add]
    refine ⟨_, ⟨upd K (25 * l.length + j) (b2 (qc n P [] j)), rfl, fun i hi => ?_⟩, fun kk => ?_⟩
    · by_cases e : i = j
      · subst e; rw [pk_us]
      · rw [pk_un (by omega)]; exact hK i (by omega)
    · simp only [fn_Mo_match_7_bd, mo_gi_29, h29, Option.bind_some, if_neg (nI_nlt (show j ≤ n by omega) (by omega)), mo_gr_49, mo_gi_47, h47, e1]
      by_cases c1 : j = n
      · have : qc n P [] j = true := by simp [qc, c1]
        rw [this, b2_t, if_pos (by rw [c1])]
        simp only [fn_Mo_match_47, fn_Mo_match_52]
        have hsT := hs1 true
        simp only [b2_t] at hsT ⊢
        rw [hsT, Option.bind_some, nI_1]
      · rw [if_neg (fun h => c1 (nI_in2 (by omega) (by omega) h))]
        have hrd : gk_il (me z D t (u.1, u.2.1, setA u.2.2 49 K)) 1 (some (z + 50)) (nI j) = some (P j) := by
          rw [mo_il_28 (by omega), ← hP j (by omega)]; rfl
        simp only [mo_gr_28, Option.bind_some, hrd]
        by_cases c2 : P j = 47
        · have : qc n P [] j = true := by simp [qc, c2]; omega
          rw [this, b2_t, if_pos c2]
          simp only [fn_Mo_match_47, fn_Mo_match_52]
          have hsT := hs1 true
          simp only [b2_t] at hsT ⊢
          rw [hsT, Option.bind_some, nI_1]
        · have : qc n P [] j = false := by simp [qc, c2, c1]
          rw [this, b2_f, if_neg c2]
          simp only [fn_Mo_match_52]
          have hsF := hs1 false
          simp only [b2_f] at hsF ⊢
          rw [hsF, Option.bind_some, nI_1]) (n + 1) 0 gk_fuel (some (z + 27), x1, nI s, nI 0, me z D t u) (by omega) (by unfold gk_fuel; omega) ⟨u.2.2 49, by rw [setA_id], fun i hi => absurd hi (by omega)⟩
  obtain ⟨K0, rfl, hK0⟩ := h1
  obtain ⟨a'', w', h3, h4⟩ := lp_to (body := fun (kk : Option Nat × Int32 × Int32 × Int32 × gk_M → Option (Int32 × gk_M)) a => fn_Mo_match_66_bd (fun a0 x1 x2 x3 M => kk (a0, x1, x2, x3, M)) a.1 a.2.1 a.2.2.1 a.2.2.2.1 a.2.2.2.2) (fun i st => i ≤ l.length ∧ ∃ K : Nat → Int32, st = (some (z + 27), x1, nI s, nI (l.length - i) - 1, me z D t (u.1, u.2.1, setA u.2.2 49 K)) ∧ ∀ p, l.length - i ≤ p → p ≤ l.length → ∀ j, j ≤ n → K (25 * p + j) = b2 (qc n P (l.drop p) j)) l.length (fun i st hi hst => by
    obtain ⟨-, K, rfl, hK⟩ := hst
    obtain ⟨p, hp⟩ : ∃ p, l.length - i = p + 1 := ⟨l.length - i - 1, by omega⟩
    rw [hp] at hK ⊢
    have hpl : p < l.length := by omega
    obtain ⟨b', m', hb', hm'⟩ := lp_toK (body := fun (Kk : Option Nat → Int32 → Int32 → Int32 → gk_M → Option (Int32 × gk_M)) (kk : Option Nat × Int32 × Int32 × Int32 × Int32 × gk_M → Option (Int32 × gk_M)) a => fn_Mo_match_73_bd Kk (fun a0 x1 x2 x3 x4 M => kk (a0, x1, x2, x3, x4, M)) a.1 a.2.1 a.2.2.1 a.2.2.2.1 a.2.2.2.2.1 a.2.2.2.2.2) (fun j st => ∃ K' : Nat → Int32, st = (some (z + 27), x1, nI s, nI p, nI j, me z D t (u.1, u.2.1, setA u.2.2 49 K')) ∧ (∀ q, p < q → q ≤ l.length → ∀ i, i ≤ n → K' (25 * q + i) = b2 (qc n P (l.drop q) i)) ∧ ∀ i, i < j → K' (25 * p + i) = b2 (qc n P (l.drop p) i)) (n + 1) (fun j st hj hst => by
      obtain ⟨K', rfl, hK1, hK2⟩ := hst
      have hlo := ms_longest (z := z) (D := D) (t := t) (u := (u.1, u.2.1, setA u.2.2 49 K')) (P := P) (pc := l.getD p 0) (C := qc n P (l.drop (p + 1))) hn h29 hP (show p < 24 by omega) (hpc p hpl) (show j ≤ n by omega) (fun e he he' => hK1 (p + 1) (by omega) (by omega) e he')
      have hqc : qc n P (l.drop p) j = (qL n P (l.getD p 0) (qc n P (l.drop (p + 1))) j).isSome := by rw [List.drop_getD hpl]; rfl
      have hs1 : ∀ b : Bool, gk_is (me z D t (u.1, u.2.1, setA u.2.2 49 K')) 2 .boolean (some (z + 56)) (nI (25 * p + j)) (b2 b) = some (me z D t (u.1, u.2.1, setA u.2.2 49 (upd K' (25 * p + j) (b2 b)))) := fun b => by
        rw [mo_is_49 (by omega)]; simp only [setA_up]; cases b <;> rfl
      have e1 : (25 : Int32) * nI p + nI j = nI (25 * p + j) := by rw [e25, nI_add]
      refine ⟨_, ⟨upd K' (25 * p + j) (b2 (qc n P (l.drop p) j)), rfl, fun q hq hq' i hi => ?_, fun i hi => ?_⟩, fun Kk kk => ?_⟩
      · rw [pk_un (by omega)]; exact hK1 q hq hq' i hi
      · by_cases e : i = j
        · subst e; rw [pk_us]
        · rw [pk_un (by omega)]; exact hK2 i (by omega)
      · simp only [fn_Mo_match_73_bd, mo_gi_29, h29, Option.bind_some, if_neg (nI_nlt (show j ≤ n by omega) (by omega)), mo_gr_49, mo_ob, hlo, e1, hqc]
        cases hq : qL n P (l.getD p 0) (qc n P (l.drop (p + 1))) j with
        | none =>
          have : lI j none < 0 := by show (-1 : Int32) < 0; decide
          rw [if_pos this]
          simp only [fn_Mo_match_108, Option.isSome_none]
          have hsF := hs1 false
          simp only [b2_f] at hsF ⊢
          rw [hsF, Option.bind_some, nI_1]
        | some e =>
          have he := (qL_some (by omega) hq).2.1
          have : ¬ lI j (some e) < 0 := nI_pos (by omega)
          rw [if_neg this]
          simp only [fn_Mo_match_108, Option.isSome_some]
          have hsT := hs1 true
          simp only [b2_t] at hsT ⊢
          rw [hsT, Option.bind_some, nI_1]) (n + 1) 0 gk_fuel (some (z + 27), x1, nI s, nI p, 0, me z D t (u.1, u.2.1, setA u.2.2 49 K)) (by omega) (by unfold gk_fuel; omega) ⟨K, rfl, fun q hq hq' => hK q (by omega) hq', fun i hi => absurd hi (by omega)⟩
    obtain ⟨K', rfl, hK1, hK2⟩ := hb'
    refine ⟨_, ⟨by omega, K', rfl, fun q hq hq' j hj => ?_⟩, fun kk => ?_⟩
    · by_cases e : q = p
      · subst e; exact hK2 j (by omega)
      · exact hK1 q (by omega) hq' j hj
    · have e2 : l.length - (i + 1) = p := by omega
      rw [e2]
      simp only [fn_Mo_match_66_bd, nI_pred, if_neg (nI_pos (show p < 2 ^ 31 by omega)), fn_Mo_match_73]
      rw [hm']
      simp only [fn_Mo_match_73_bd, mo_gi_29, h29, Option.bind_some, if_pos (nI_lt (show n < n + 1 by omega) (by omega)), i_m1s]) l.length 0 gk_fuel (some (z + 27), x1, nI s, nI l.length - 1, me z D t (u.1, u.2.1, setA u.2.2 49 K0)) (by omega) (by unfold gk_fuel; omega) ⟨by omega, K0, rfl, fun p h1 h2 j hj => by
        have : p = l.length := by omega
        subst this
        rw [List.drop_length]
        exact hK0 j (by omega)⟩
  obtain ⟨-, K, rfl, hK⟩ := h3
  refine ⟨K, w', ?_, fun p hp => hK p (by omega) hp⟩
  unfold fn_Mo_match_7
  rw [nI_0] at h2
  rw [h2]
  simp only [fn_Mo_match_7_bd, mo_gi_29, h29, Option.bind_some, if_pos (nI_lt (show n < n + 1 by omega) (by omega)), mo_gi_47, h47, fn_Mo_match_66]
  rw [h4]
  have e3 : nI (l.length - l.length) - 1 = -1 := by rw [Nat.sub_self]; decide
  rw [e3]
