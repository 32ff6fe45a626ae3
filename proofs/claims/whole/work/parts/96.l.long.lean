def lI (j : Nat) (r : Option Nat) : Int32 := match r with
  | none => -1
  | some e => nI (e - j)
theorem qg_lo {q : Nat → Bool} : ∀ {j : Nat}, (∀ e, e < j → q e = false) → qg q j = if q j = true then some j else none
  | 0, _ => rfl
  | j + 1, h => by
    simp only [qg]
    rw [qg_none fun e he => h e (by omega)]
theorem nI_sub {a b : Nat} (h : b ≤ a) : nI a - nI b = nI (a - b) := by
  obtain ⟨c, rfl⟩ : ∃ c, a = b + c := ⟨a - b, by omega⟩
  rw [← nI_add, Nat.add_sub_cancel_left, Int32.add_comm, Int32.add_sub_cancel]
theorem ms_longest {z : Nat} {D : gk_M} {t : sd_S} {u : mo_S} {n p j : Nat} {P : Nat → Int32} {pc : Int32} {C : Nat → Bool} (hn : n ≤ 24) (h29 : u.1 29 = nI n) (hP : ∀ i, i < n → u.2.2 28 i = P i) (hp : p < 24) (hpc : u.2.2 48 p = pc) (hj : j ≤ n) (hC : ∀ e, j ≤ e → e ≤ n → u.2.2 49 (25 * (p + 1) + e) = b2 (C e)) : fn_Mo_longest (some (z + 27)) (nI p) (nI j) (me z D t u) = some (lI j (qL n P pc C j), me z D t u) := by
  obtain ⟨e1, e2, e3⟩ := qe_spec n P pc j
  have e4 := qe_le P pc hj
  have hll := ql_le n pc j
  -- the loop
  have hlp : ∀ most : Nat, most ≤ 24 → (∀ c, 1 ≤ c → j + c ≤ n + 1 → ((c ≤ most ∧ j + c ≤ n) ↔ j + c - 1 < ql n pc j)) → fn_Mo_longest_57 (some (z + 27)) (nI p) (nI j) (nI most) (lI j (qg (fun e => decide (qs pc j ≤ e) && C e) j)) (nI 1) (me z D t u) = some (lI j (qL n P pc C j), me z D t u) := by
    intro most hmost hm
    unfold fn_Mo_longest_57
    obtain ⟨a', w, h1, h2⟩ := lp_to (body := fun (kk : Option Nat × Int32 × Int32 × Int32 × Int32 × Int32 × gk_M → Option (Int32 × gk_M)) a => fn_Mo_longest_57_bd (fun a0 x1 x2 x3 x4 x5 M => kk (a0, x1, x2, x3, x4, x5, M)) a.1 a.2.1 a.2.2.1 a.2.2.2.1 a.2.2.2.2.1 a.2.2.2.2.2.1 a.2.2.2.2.2.2) (fun e st => j ≤ e ∧ st = (some (z + 27), nI p, nI j, nI most, lI j (qg (fun e => decide (qs pc j ≤ e) && C e) e), nI (e - j + 1), me z D t u)) (qe n P pc j) (fun e st he hst => by
      obtain ⟨hje, rfl⟩ := hst
      obtain ⟨g1, g2⟩ := e2 e hje he
      have hc := (hm (e - j + 1) (by omega) (by omega)).mpr (by omega)
      have k1 : nI j + nI (e - j + 1) = nI (e + 1) := by rw [nI_add]; congr 1; omega
      have k2 : (25 : Int32) * (nI p + 1) + nI j + nI (e - j + 1) = nI (25 * (p + 1) + (e + 1)) := by rw [nI_1, e25, nI_add, nI_add]; congr 1; omega
      have hqs : qs pc j ≤ e + 1 := by unfold qs; split <;> omega
      refine ⟨_, ⟨by omega, rfl⟩, fun kk => ?_⟩
      simp only [fn_Mo_longest_57_bd, if_neg (nI_nlt hc.1 (by omega)), mo_gi_29, h29, Option.bind_some, k1, if_neg (nI_nlt (show e + 1 ≤ n by omega) (by omega)), mo_gr_48, mo_il_48 hp, hpc, mo_gr_28, nI_pred, mo_il_28 (show e < 24 by omega), hP e (by omega), ms_fits, g2, b2_t, if_neg e10, mo_gr_49, k2, mo_il_49 (show 25 * (p + 1) + (e + 1) < 625 by omega), hC (e + 1) (by omega) (by omega), b2_0, fn_Mo_longest_126, qg, hqs, decide_true, Bool.true_and]
      have k3 : e + 1 - j + 1 = e - j + 1 + 1 := by omega
      have k4 : e + 1 - j = e - j + 1 := by omega
      cases hce : C (e + 1) with
      | true => simp only [Bool.true_eq_false, if_false, if_true, lI, k4, nI_1]
      | false => simp only [Bool.true_eq_false, if_true, Bool.false_eq_true, if_false, k3, nI_1]) (qe n P pc j - j) j gk_fuel (some (z + 27), nI p, nI j, nI most, lI j (qg (fun e => decide (qs pc j ≤ e) && C e) j), nI 1, me z D t u) (by omega) (by unfold gk_fuel; omega) ⟨Nat.le_refl _, by rw [Nat.sub_self]⟩
    rw [h2]
    obtain ⟨-, rfl⟩ := h1
    have hm' := hm (qe n P pc j - j + 1) (by omega) (by omega)
    rw [show j + (qe n P pc j - j + 1) - 1 = qe n P pc j by omega] at hm'
    have k1 : nI j + nI (qe n P pc j - j + 1) = nI (qe n P pc j + 1) := by rw [nI_add]; congr 1; omega
    show fn_Mo_longest_57_bd _ (some (z + 27)) (nI p) (nI j) (nI most) (lI j (qL n P pc C j)) (nI (qe n P pc j - j + 1)) (me z D t u) = _
    by_cases c1 : qe n P pc j - j + 1 ≤ most
    · by_cases c2 : qe n P pc j + 1 ≤ n
      · have g : qe n P pc j < ql n pc j := hm'.mp ⟨c1, by omega⟩
        have g2 : qo pc (P (qe n P pc j)) = false := by
          cases hq : qo pc (P (qe n P pc j)) with
          | false => rfl
          | true => exact absurd ⟨g, hq⟩ e3
        simp only [fn_Mo_longest_57_bd, if_neg (nI_nlt c1 (by omega)), mo_gi_29, h29, Option.bind_some, k1, if_neg (nI_nlt c2 (by omega)), mo_gr_48, mo_il_48 hp, hpc, mo_gr_28, nI_pred, mo_il_28 (show qe n P pc j < 24 by omega), hP (qe n P pc j) (by omega), ms_fits, g2, b2_f, if_true]
      · simp only [fn_Mo_longest_57_bd, if_neg (nI_nlt c1 (by omega)), mo_gi_29, h29, Option.bind_some, k1, if_pos (nI_lt (show n < qe n P pc j + 1 by omega) (by omega)), fn_Mo_longest_134]
    · simp only [fn_Mo_longest_57_bd, if_pos (nI_lt (show most < qe n P pc j - j + 1 by omega) (by omega)), fn_Mo_longest_134]
  -- the first value
  have hin : ∀ s0, fn_Mo_longest_20 (some (z + 27)) (nI p) (nI j) s0 (me z D t u) = fn_Mo_longest_57 (some (z + 27)) (nI p) (nI j) s0 (lI j (qg (fun e => decide (qs pc j ≤ e) && C e) j)) (nI 1) (me z D t u) := by
    intro s0
    have k2 : (25 : Int32) * (nI p + 1) + nI j = nI (25 * (p + 1) + j) := by rw [nI_1, e25, nI_add]
    have hjs : j ≤ qs pc j := by unfold qs; split <;> omega
    rw [qg_lo (fun e he => by simp only [show ¬ qs pc j ≤ e by omega, decide_false, Bool.false_and])]
    simp only [fn_Mo_longest_20, mo_gr_48, Option.bind_some, mo_il_48 hp, hpc, mo_gr_49, k2, mo_il_49 (show 25 * (p + 1) + j < 625 by omega), hC j (Nat.le_refl _) hj, b2_0, fn_Mo_longest_51, fn_Mo_longest_52]
    by_cases c : pc = 3
    · rw [if_pos c]
      have : qs pc j = j := by simp [qs, c]
      rw [this]
      cases hcj : C j with
      | true => simp only [Bool.true_eq_false, if_false, Nat.le_refl, decide_true, Bool.and_self, if_true, lI, Nat.sub_self, nI_0]; rfl
      | false => simp only [if_true, Bool.and_false, Bool.false_eq_true, if_false, lI]; rfl
    · rw [if_neg c]
      have : qs pc j = j + 1 := by simp [qs, c]
      rw [this]
      simp only [show ¬ j + 1 ≤ j by omega, decide_false, Bool.false_and, Bool.false_eq_true, if_false, lI]; rfl
  unfold fn_Mo_longest
  simp only [mo_gr_48, Option.bind_some, mo_il_48 hp, hpc, mo_gi_29, h29]
  by_cases c : pc ≤ 3
  · rw [if_pos c, hin, nI_sub hj]
    refine hlp (n - j) (by omega) fun k hk hk' => ?_
    simp only [ql, if_pos c]
    omega
  · rw [if_neg c, hin]
    refine hlp 1 (by omega) fun k hk hk' => ?_
    simp only [ql, if_neg c]
    omega
