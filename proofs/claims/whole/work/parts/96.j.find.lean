def fA (X : Nat → Nat → Int32) (A G H : Nat → Int32) : Nat → Nat → Int32 := setA (setA (setA X 16 A) 17 G) 18 H
theorem fA_16 (X : Nat → Nat → Int32) (A G H : Nat → Int32) : fA X A G H 16 = A := rfl
theorem fA_17 (X : Nat → Nat → Int32) (A G H : Nat → Int32) : fA X A G H 17 = G := rfl
theorem fA_18 (X : Nat → Nat → Int32) (A G H : Nat → Int32) : fA X A G H 18 = H := rfl
theorem fA_ne (X : Nat → Nat → Int32) (A G H : Nat → Int32) {k : Nat} (h1 : k ≠ 16) (h2 : k ≠ 17) (h3 : k ≠ 18) : fA X A G H k = X k := by
  unfold fA
  rw [setA_ne _ _ h3, setA_ne _ _ h2, setA_ne _ _ h1]
theorem fA_u17 (X : Nat → Nat → Int32) (A G H : Nat → Int32) (j : Nat) (x : Int32) : up2 (fA X A G H) 17 j x = fA X A (upd G j x) H := by
  funext a
  by_cases h : a = 17
  · subst h; rw [up2_self, fA_17, fA_17]
  · rw [up2_ne _ _ _ h]
    unfold fA
    by_cases h' : a = 18
    · subst h'; rw [setA_self, setA_self]
    · rw [setA_ne _ _ h', setA_ne _ _ h', setA_ne _ _ h, setA_ne _ _ h]
theorem fA_u18 (X : Nat → Nat → Int32) (A G H : Nat → Int32) (j : Nat) (x : Int32) : up2 (fA X A G H) 18 j x = fA X A G (upd H j x) := by
  funext a
  by_cases h : a = 18
  · subst h; rw [up2_self, fA_18, fA_18]
  · rw [up2_ne _ _ _ h]
    unfold fA
    rw [setA_ne _ _ h, setA_ne _ _ h]
theorem fA_0 (X : Nat → Nat → Int32) (A : Nat → Int32) : setA X 16 A = fA X A (X 17) (X 18) := by
  funext a
  unfold fA
  by_cases h : a = 18
  · subst h; rw [setA_self]; rfl
  · rw [setA_ne _ _ h]
    by_cases h' : a = 17
    · subst h'; rw [setA_self]; rfl
    · rw [setA_ne _ _ h']
theorem upd_upd (f : Nat → Int32) (k : Nat) (x y : Int32) : upd (upd f k x) k y = upd f k y := by
  funext a
  by_cases h : a = k
  · subst h; rw [pk_us, pk_us]
  · rw [pk_un h, pk_un h, pk_un h]
def gok (gs : List (Nat × Nat)) (G H : Nat → Int32) : Prop := ∀ k, k < gs.length → G k = nI (gs.getD k (0, 0)).1 ∧ H k = nI (gs.getD k (0, 0)).2
theorem getD_l {α : Type} {l l' : List α} {k : Nat} {d : α} (h : k < l.length) : (l ++ l').getD k d = l.getD k d := by
  rw [List.getD_eq_getElem?_getD, List.getD_eq_getElem?_getD, List.getElem?_append_left h]
theorem getD_e {α : Type} {l : List α} {x d : α} : (l ++ [x]).getD l.length d = x := by
  rw [List.getD_eq_getElem?_getD, List.getElem?_append_right (Nat.le_refl _)]
  simp
theorem gok_app {gs : List (Nat × Nat)} {G H : Nat → Int32} (h : gok gs G H) (x : Nat × Nat) : gok (gs ++ [x]) (upd G gs.length (nI x.1)) (upd H gs.length (nI x.2)) := by
  intro k hk
  rw [List.length_append, List.length_singleton] at hk
  by_cases hkl : k = gs.length
  · subst hkl
    rw [pk_us, pk_us, getD_e]
    exact ⟨rfl, rfl⟩
  · rw [pk_un hkl, pk_un hkl, getD_l (by omega)]
    exact h k (by omega)
theorem ngr_cons2 (p : Int32) (l : List Int32) : ngr (p :: l) = (if p ≤ 3 then 1 else 0) + ngr l := by
  unfold ngr
  by_cases h : p ≤ 3
  · simp only [List.filter_cons, h, decide_true, if_true, List.length_cons]; omega
  · simp only [List.filter_cons, h, decide_false, Bool.false_eq_true, if_false]; omega
theorem cs_find {z : Nat} {D : gk_M} {t : sd_S} {u : mo_S} {a n s : Nat} {l : List Int32} (hT : tpl z D a l) (hg : ngr l ≤ 4) (h19 : t.1 19 = nI n) (hn : n ≤ 24) (hs : s ≤ n) : ∃ t' : sd_S, tq t t' ∧ fn_Fit_find (some (z + 15)) (some a) (some (z + 20)) (nI s) (me z D t u) = some (b2 (qc n (t.2.1 21) l s), me z D t' u) ∧ (qc n (t.2.1 21) l s = true → t'.1 9 = nI (qw n (t.2.1 21) l s).1.length ∧ t'.1 10 = nI (qw n (t.2.1 21) l s).2 ∧ gok (qw n (t.2.1 21) l s).1 (t'.2.1 17) (t'.2.1 18)) := by
  obtain ⟨q, w1, w2, w3, -, -, -, hl24⟩ := tpl_rd hT
  obtain ⟨A, hA1, hA2⟩ := cs_open (u := u) hT h19 hn hs
  have h0 : hl (A 0) s = qc n (t.2.1 21) l s := hA2 0 (by omega) s (Nat.le_refl _) hs
  have e0 : gk_il (me z D (t.1, setA t.2.1 16 A, t.2.2) u) 0 (some (z + 16)) 0 = some (A 0) := by
    have := sd_il_16 (z := z) (D := D) (t := (t.1, setA t.2.1 16 A, t.2.2)) (u := u) (j := 0) (by omega)
    simpa only [nI_0, setA_self] using this
  cases hc : qc n (t.2.1 21) l s with
  | false =>
    refine ⟨(t.1, setA t.2.1 16 A, t.2.2), ⟨fun _ _ _ => rfl, fun k h1 _ _ => setA_ne _ _ h1, rfl⟩, ?_, fun h => absurd h (by decide)⟩
    simp only [fn_Fit_find, sd_ob_15, Option.bind_some, hA1, sd_gr_15_0, e0, cs_holds, h0, hc, b2_f, if_true, ev_z0]
  | true =>
    obtain ⟨a', m, h1, h2⟩ := lp_to (body := fun (kk : Option Nat × Option Nat × Option Nat × Int32 × Int32 × gk_M → Option (Int32 × gk_M)) a => fn_Fit_find_33_bd (fun a0 a1 a2 x4 x5 M => kk (a0, a1, a2, x4, x5, M)) a.1 a.2.1 a.2.2.1 a.2.2.2.1 a.2.2.2.2.1 a.2.2.2.2.2) (fun p st => p ≤ l.length ∧ ∃ (e : Nat) (gs : List (Nat × Nat)) (G H : Nat → Int32), st = (some (z + 15), some a, some (z + 20), nI e, nI p, me z D (upd t.1 9 (nI gs.length), fA t.2.1 A G H, t.2.2) u) ∧ s ≤ e ∧ e ≤ n ∧ qc n (t.2.1 21) (l.drop p) e = true ∧ (qw n (t.2.1 21) l s) = (gs ++ (qw n (t.2.1 21) (l.drop p) e).1, (qw n (t.2.1 21) (l.drop p) e).2) ∧ gok gs G H) l.length (fun p st hp hst => by
      obtain ⟨-, e, gs, G, H, rfl, hse, hen, hce, hw, hgs⟩ := hst
      rw [List.drop_getD hp] at hce hw
      obtain ⟨e', he'⟩ := Option.isSome_iff_exists.mp (show (qL n (t.2.1 21) (l.getD p 0) (qc n (t.2.1 21) (l.drop (p + 1))) e).isSome = true from hce)
      obtain ⟨q1, q2, q3, q4⟩ := qL_some hen he'
      have hle : fn_Fit_lastEnd (l.getD p 0) (some (z + 20)) (nI e) (A (p + 1)) (me z D (upd t.1 9 (nI gs.length), fA t.2.1 A G H, t.2.2) u) = some (oI (qL n (t.2.1 21) (l.getD p 0) (qc n (t.2.1 21) (l.drop (p + 1))) e), me z D (upd t.1 9 (nI gs.length), fA t.2.1 A G H, t.2.2) u) :=
        cs_lastEnd (tx_pth (z := z) (D := D) (t := (upd t.1 9 (nI gs.length), fA t.2.1 A G H, t.2.2)) (u := u) h19 hn) hen (fun f hf hf' => hA2 (p + 1) (by omega) f (by omega) hf')
      rw [he'] at hle
      have hle : fn_Fit_lastEnd (l.getD p 0) (some (z + 20)) (nI e) (A (p + 1)) (me z D (upd t.1 9 (nI gs.length), fA t.2.1 A G H, t.2.2) u) = some (nI e', me z D (upd t.1 9 (nI gs.length), fA t.2.1 A G H, t.2.2) u) := hle
      have e1 : gk_il (me z D (upd t.1 9 (nI gs.length), fA t.2.1 A G H, t.2.2) u) 0 (some (z + 16)) (nI (p + 1)) = some (A (p + 1)) := by rw [sd_il_16 (by omega)]; simp only [fA_16]
      have hglen : gs.length + ngr (l.getD p 0 :: l.drop (p + 1)) ≤ 4 := by
        have := congrArg (fun x => x.1.length) hw
        simp only [List.length_append, qw_len] at this
        omega
      simp only [qw, he', Option.getD_some] at hw
      by_cases hgp : l.getD p 0 ≤ 3
      · rw [ngr_cons2, if_pos hgp] at hglen
        refine ⟨_, ⟨by omega, e', gs ++ [(e, e')], upd G gs.length (nI e), upd H gs.length (nI e'), rfl, by omega, q2, q3, ?_, gok_app hgs (e, e')⟩, fun kk => ?_⟩
        · rw [hw, if_pos hgp, List.append_assoc]
        · simp only [fn_Fit_find_33_bd, w3, Option.bind_some, if_neg (nI_ge hp (by omega)), w1, w2 _ _ p hp, sd_gr_15_0, e1, hle, cs_isGroup, b2_d0, hgp, not_true_eq_false, if_false, sd_gr_15_1, sd_gi_9, pk_us, sd_is_17 (show gs.length < 4 by omega), sd_gr_15_2, sd_is_18 (show gs.length < 4 by omega), sd_pf_9, nar_int, fA_u17, fA_u18, fn_Fit_find_111, nI_1, upd_upd, List.length_append, List.length_singleton]
      · refine ⟨_, ⟨by omega, e', gs, G, H, rfl, by omega, q2, q3, ?_, hgs⟩, fun kk => ?_⟩
        · rw [hw, if_neg hgp, List.nil_append]
        · simp only [fn_Fit_find_33_bd, w3, Option.bind_some, if_neg (nI_ge hp (by omega)), w1, w2 _ _ p hp, sd_gr_15_0, e1, hle, cs_isGroup, b2_d0, hgp, not_false_eq_true, if_true, fn_Fit_find_111, nI_1]) l.length 0 gk_fuel (some (z + 15), some a, some (z + 20), nI s, nI 0, me z D (upd t.1 9 0, setA t.2.1 16 A, t.2.2) u) (by omega) (by unfold gk_fuel; omega) ⟨by omega, s, [], t.2.1 17, t.2.1 18, by rw [fA_0]; rfl, Nat.le_refl _, hs, hc, rfl, fun k hk => absurd hk (by simp)⟩
    obtain ⟨-, e, gs, G, H, rfl, hse, hen, hce, hw, hgs⟩ := h1
    rw [List.drop_length] at hw
    simp only [qw, List.append_nil] at hw
    refine ⟨(upd (upd t.1 9 (nI gs.length)) 10 (nI e), fA t.2.1 A G H, t.2.2), ⟨fun k k1 k2 => by show upd (upd t.1 9 (nI gs.length)) 10 (nI e) k = t.1 k; rw [pk_un k2, pk_un k1], fun k k1 k2 k3 => fA_ne _ _ _ _ k1 k2 k3, rfl⟩, ?_, fun _ => ?_⟩
    · simp only [fn_Fit_find, sd_ob_15, Option.bind_some, hA1, sd_gr_15_0, e0, cs_holds, h0, hc, b2_t, if_neg e10, sd_pf_9, fn_Fit_find_33]
      rw [nI_0] at h2
      rw [h2]
      simp only [fn_Fit_find_33_bd, w3, Option.bind_some, if_pos (Int32.le_refl _), sd_pf_10, ev_z1]
    · rw [hw]
      exact ⟨rfl, rfl, hgs⟩
