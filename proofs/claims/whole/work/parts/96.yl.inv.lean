/-! what is thrown; the method -/
def dflt (x : Int32) : Int32 := if x = 8 then 404 else if x = 9 then 405 else if x = 10 then 406 else if x = 11 then 415 else 500
theorem dflt_g {α : Type} (F : Int32 → α) (x : Int32) : (if x = 8 then F 404 else if x = 9 then F 405 else if x = 10 then F 406 else if x = 11 then F 415 else F 500) = F (dflt x) := by
  unfold dflt
  by_cases h8 : x = 8
  · rw [if_pos h8, if_pos h8]
  · rw [if_neg h8, if_neg h8]
    by_cases h9 : x = 9
    · rw [if_pos h9, if_pos h9]
    · rw [if_neg h9, if_neg h9]
      by_cases h10 : x = 10
      · rw [if_pos h10, if_pos h10]
      · rw [if_neg h10, if_neg h10]
        by_cases h11 : x = 11
        · rw [if_pos h11, if_pos h11]
        · rw [if_neg h11, if_neg h11]
def stt (mp : Nat → Int32) (x : Int32) : Nat → Nat → Int32
  | 0, _ => dflt x
  | f + 1, j => if j = 0 then dflt x else if mp j = 0 then stt mp x f (j / 2) else mp j
theorem i_div2 {j : Nat} (h : j < 16) : nI j / 2 = nI (j / 2) := by
  have key : ∀ j, j < 16 → nI j / 2 = nI (j / 2) := by decide +kernel
  exact key j h
section
variable {z : Nat} {D : gk_M} {rn mn ln n : Nat} {P : Nat → Int32} {P4 P5 P6 : Nat → Option Nat} {B : Nat → Nat → Int32} {t : sd_S} {u : mo_S} {mp : Nat → Int32}
theorem cs_stt (hm : ∀ k, k < 16 → t.2.1 26 k = mp k) (x : Int32) : ∀ (f j F : Nat), j < 16 → j < 2 ^ f → f < F → gk_loop (α := Option Nat × Int32 × Int32 × gk_M) (fun kk a => fn_SD_statusOf_2_bd (fun a0 x1 x2 M => kk (a0, x1, x2, M)) a.1 a.2.1 a.2.2.1 a.2.2.2) F (some z, x, nI j, me z D t u) = some (stt mp x f j, me z D t u) := by
  have h0 : ∀ (kk : Option Nat → Int32 → Int32 → gk_M → Option (Int32 × gk_M)), fn_SD_statusOf_2_bd kk (some z) x (nI 0) (me z D t u) = some (dflt x, me z D t u) := by
    intro kk
    unfold fn_SD_statusOf_2_bd
    rw [if_pos (by rw [nI_0]; exact Int32.le_refl _)]
    exact dflt_g (fun y => some (y, me z D t u)) x
  intro f
  induction f with
  | zero =>
    intro j F hj hj2 hF
    obtain ⟨F, rfl⟩ : ∃ F', F = F' + 1 := ⟨F - 1, by omega⟩
    have : j = 0 := by have : (2 : Nat) ^ 0 = 1 := rfl; omega
    subst this
    rw [gk_loop_s]
    exact h0 _
  | succ f ih =>
    intro j F hj hj2 hF
    obtain ⟨F, rfl⟩ : ∃ F', F = F' + 1 := ⟨F - 1, by omega⟩
    rw [gk_loop_s]
    by_cases c0 : j = 0
    · subst c0
      exact h0 _
    · have hs : ∀ (kk : Option Nat → Int32 → Int32 → gk_M → Option (Int32 × gk_M)), fn_SD_statusOf_2_bd kk (some z) x (nI j) (me z D t u) = if mp j = 0 then kk (some z) x (nI (j / 2)) (me z D t u) else some (mp j, me z D t u) := by
        intro kk
        have e26 : gk_il (me z D t u) 0 (some (z + 26)) (nI j) = some (mp j) := by rw [sd_il_26 hj, hm j hj]
        simp only [fn_SD_statusOf_2_bd, if_neg (nI_nle (n := j) (by omega) (by omega)), sd_gr_0_6, Option.bind_some, e26, i_div2 hj]
      refine (hs _).trans ?_
      have e : stt mp x (f + 1) j = if mp j = 0 then stt mp x f (j / 2) else mp j := by rw [stt, if_neg c0]
      rw [e]
      by_cases c : mp j = 0
      · rw [if_pos c, if_pos c]
        exact ih (j / 2) F (by omega) (by rw [Nat.pow_succ] at hj2; omega) (by omega)
      · rw [if_neg c, if_neg c]
theorem cs_statusOf (hm : ∀ k, k < 16 → t.2.1 26 k = mp k) {j : Nat} (hj : j < 16) : fn_SD_statusOf (some z) (nI j) (me z D t u) = some (stt mp (nI j) 4 j, me z D t u) := by
  unfold fn_SD_statusOf fn_SD_statusOf_2
  exact cs_stt hm (nI j) 4 j gk_fuel hj (by show j < 16; exact hj) (by unfold gk_fuel; omega)
theorem ms_stt (hm : ∀ k, k < 16 → u.2.2 24 k = mp k ∧ (mp k = 0 ∨ wi (mp k) 100 599 = true)) (x : Int32) : ∀ (f j F : Nat), j < 16 → j < 2 ^ f → f < F → gk_loop (α := Option Nat × Int32 × Int32 × gk_M) (fun kk a => fn_Mo_raise_7_bd (fun a0 x1 x2 M => kk (a0, x1, x2, M)) a.1 a.2.1 a.2.2.1 a.2.2.2) F (some (z + 27), x, nI j, me z D t u) = some (me z D t (upd u.1 32 (stt mp x f j), u.2)) := by
  have h0 : ∀ (kk : Option Nat → Int32 → Int32 → gk_M → Option gk_M), fn_Mo_raise_7_bd kk (some (z + 27)) x (nI 0) (me z D t u) = some (me z D t (upd u.1 32 (dflt x), u.2)) := by
    intro kk
    unfold fn_Mo_raise_7_bd
    rw [if_pos (by rw [nI_0]; exact Int32.le_refl _)]
    rw [dflt_g (fun y => fn_Mo_raise_90 (some (z + 27)) y (me z D t u)) x]
    simp only [fn_Mo_raise_90, mo_pf_32, Option.bind_some]
  intro f
  induction f with
  | zero =>
    intro j F hj hj2 hF
    obtain ⟨F, rfl⟩ : ∃ F', F = F' + 1 := ⟨F - 1, by omega⟩
    have : j = 0 := by have : (2 : Nat) ^ 0 = 1 := rfl; omega
    subst this
    rw [gk_loop_s]
    exact h0 _
  | succ f ih =>
    intro j F hj hj2 hF
    obtain ⟨F, rfl⟩ : ∃ F', F = F' + 1 := ⟨F - 1, by omega⟩
    rw [gk_loop_s]
    by_cases c0 : j = 0
    · subst c0
      exact h0 _
    · have hs : ∀ (kk : Option Nat → Int32 → Int32 → gk_M → Option gk_M), fn_Mo_raise_7_bd kk (some (z + 27)) x (nI j) (me z D t u) = if mp j = 0 then kk (some (z + 27)) x (nI (j / 2)) (me z D t u) else some (me z D t (upd u.1 32 (mp j), u.2)) := by
        intro kk
        obtain ⟨m1, m2⟩ := hm j hj
        have e24 : gk_il (me z D t u) 0 (some (z + 47)) (nI j) = some (mp j) := by rw [mo_il_24 hj, m1]
        simp only [fn_Mo_raise_7_bd, if_neg (nI_nle (n := j) (by omega) (by omega)), mo_gr_24, Option.bind_some, e24, i_div2 hj, mo_pf_32]
        by_cases c : mp j = 0
        · rw [if_pos c, if_pos (by rw [c]; exact Int32.le_refl _)]
        · rw [if_neg c, if_neg]
          rcases m2 with m2 | m2
          · exact absurd m2 c
          · rw [wi_t] at m2
            have := Int32.le_iff_toInt_le.mp m2.1
            rw [Int32.le_iff_toInt_le, Int32.toInt_zero]
            rw [show (100 : Int32).toInt = 100 by decide] at this
            omega
      refine (hs _).trans ?_
      have e : stt mp x (f + 1) j = if mp j = 0 then stt mp x f (j / 2) else mp j := by rw [stt, if_neg c0]
      rw [e]
      by_cases c : mp j = 0
      · rw [if_pos c, if_pos c]
        exact ih (j / 2) F (by omega) (by rw [Nat.pow_succ] at hj2; omega) (by omega)
      · rw [if_neg c, if_neg c]
theorem ms_raise (hm : ∀ k, k < 16 → u.2.2 24 k = mp k ∧ (mp k = 0 ∨ wi (mp k) 100 599 = true)) {j : Nat} (hj : j < 16) : fn_Mo_raise (some (z + 27)) (nI j) (me z D t u) = some (me z D t (upd (upd u.1 33 1) 32 (stt mp (nI j) 4 j), u.2)) := by
  unfold fn_Mo_raise fn_Mo_raise_7
  rw [ev_z1, Option.bind_some, mo_pf_33, Option.bind_some]
  exact ms_stt (u := (upd u.1 33 1, u.2)) hm (nI j) 4 j gk_fuel hj (by show j < 16; exact hj) (by unfold gk_fuel; omega)
def cvt (B : Nat → Nat → Int32) (m : Nat) : Nat := (B 11 m).toNatClampNeg
def thw (B : Nat → Nat → Int32) (m : Nat) : Nat := (B 13 m).toNatClampNeg
def ag (B : Nat → Nat → Int32) (P : Nat → Int32) (ps : List (Nat × Nat)) (m : Nat) : Option Nat := if 0 ≤ B 11 m ∧ cvt B m < ps.length then nuO P (ps.getD (cvt B m) (0, 0)).1 (ps.getD (cvt B m) (0, 0)).2 else some 0
def tI (t : sd_S) (m : Nat) (r : Option Nat) : sd_S := match r with
  | none => t
  | some a => (upd (upd t.1 15 (nI m)) 16 (nI a), t.2)
theorem cvt_of {m : Nat} (h : mrg rn B m) : B 11 m = -1 ∨ (0 ≤ B 11 m ∧ B 11 m = nI (cvt B m) ∧ cvt B m ≤ 9) := by
  have h11 := h.2.2.2.2.2.1
  rw [wi_t] at h11
  by_cases c : 0 ≤ B 11 m
  · right
    have := wi_n (x := B 11 m) (M := 9) (n := 9) (by decide) (by omega) (by rw [wi_t]; exact ⟨c, h11.2⟩)
    exact ⟨c, this⟩
  · left
    have h1 := Int32.le_iff_toInt_le.mp h11.1
    rw [Int32.le_iff_toInt_le, Int32.toInt_zero] at c
    rw [show (-1 : Int32).toInt = -1 by decide] at h1
    rw [← Int32.toInt_inj, show (-1 : Int32).toInt = -1 by decide]
    omega
theorem getD_mem {α : Type} {l : List α} {k : Nat} {d : α} (h : k < l.length) : l.getD k d ∈ l := by
  rw [List.getD_eq_getElem?_getD, List.getElem?_eq_getElem h]
  exact List.getElem_mem h
theorem nuO_lt {a b x : Nat} (h : nuO P a b = some x) : x ≤ 2147483647 := by
  have key : ∀ k i y, y ≤ 2147483647 → nu P k i y = some x → x ≤ 2147483647 := by
    intro k
    induction k with
    | zero => intro i y hy hh; cases hh; exact hy
    | succ k ih =>
      intro i y hy hh
      simp only [nu] at hh
      split at hh
      · rename_i hc
        rw [Bool.and_eq_true, decide_eq_true_eq] at hc
        exact ih _ _ hc.2 hh
      · cases hh
  unfold nuO at h
  split at h
  · cases h
  · exact key _ _ 0 (by omega) h
theorem ag_lt {ps : List (Nat × Nat)} {m x : Nat} (h : ag B P ps m = some x) : x < 2 ^ 31 := by
  unfold ag at h
  split at h
  · have := nuO_lt h; omega
  · cases h; omega
theorem cs_invoke (hn : n ≤ 24) (hP : ∀ i, i < n → t.2.1 21 i = P i ∧ kc (P i) = true) {m o : Nat} {ps : List (Nat × Nat)} (hmr : mrg rn B m) (o11 : ∀ t u, gk_gi (me z D t u) 4 6 (some o) = some (B 11 m)) (o13 : ∀ t u, gk_gi (me z D t u) 4 8 (some o) = some (B 13 m)) (h12 : t.1 12 = nI ps.length) (hlen : ps.length ≤ 104) (hg : gok ps (t.2.1 23) (t.2.1 24)) (hin : ∀ g ∈ ps, g.1 ≤ g.2 ∧ g.2 ≤ n) (h14 : t.1 14 = nI m) : fn_SD_invoke (some z) (some o) (me z D t u) = some (if ag B P ps m = none then 8 else B 13 m, me z D (tI t m (ag B P ps m)) u) := by
  have h34 : ∀ r : Option Nat, (∀ x, r = some x → x < 2 ^ 31) → fn_SD_invoke_34 (some z) (some o) (oI r) (me z D t u) = some (if r = none then 8 else B 13 m, me z D (tI t m r) u) := by
    intro r hr
    cases r with
    | none => simp only [fn_SD_invoke_34, oI, if_true, tI]
    | some a =>
      have hx : oI (some a) = nI a := rfl
      rw [hx]
      simp only [fn_SD_invoke_34, if_neg (m1_ne a (hr a rfl)), sd_gr_0_5, Option.bind_some, sd_gi_14, h14, sd_pf_15, sd_pf_16, o13, tI, reduceCtorEq, if_false]
  have e0 : (0 : Int32) = oI (some 0) := rfl
  simp only [fn_SD_invoke, o11, Option.bind_some, sd_gr_0_5, sd_gi_12, h12, cs_within, b2_0, sd_ob_19]
  rcases cvt_of hmr with hc | ⟨c0, c1, c9⟩
  · have hw : wi (B 11 m) 0 (nI ps.length - 1) = false := by
      unfold wi
      rw [decide_eq_false]
      intro q
      rw [hc] at q
      exact absurd q.1 (by decide)
    have ha : ag B P ps m = some 0 := by
      unfold ag
      rw [if_neg]
      intro q
      rw [hc] at q
      exact absurd q.1 (by decide)
    rw [if_pos hw, e0, ha]
    exact h34 (some 0) (fun x hx => by cases hx; omega)
  · by_cases cl : cvt B m < ps.length
    · have hw : wi (B 11 m) 0 (nI ps.length - 1) = true := by rw [c1]; exact wi_of (by omega) cl
      have ha : ag B P ps m = nuO P (ps.getD (cvt B m) (0, 0)).1 (ps.getD (cvt B m) (0, 0)).2 := by unfold ag; rw [if_pos ⟨c0, cl⟩]
      have hgk := hg _ cl
      have hi := hin _ (getD_mem (d := (0, 0)) cl)
      have hnum := cs_numberIn (z := z) (D := D) (u := u) hn hP (show cvt B m < 104 by omega) hgk.1 hgk.2 hi.1 hi.2
      rw [← ha, ← c1] at hnum
      rw [if_neg (by rw [hw]; decide)]
      simp only [hnum, Option.bind_some]
      exact h34 _ (fun x hx => ag_lt hx)
    · have hw : wi (B 11 m) 0 (nI ps.length - 1) = false := by
        rcases bool_or (wi (B 11 m) 0 (nI ps.length - 1)) with hw | hw
        · exact hw
        · obtain ⟨j, hj, he⟩ := wi_ix (by omega) hw
          rw [c1] at he
          have := (nI_eq (by omega) (by omega)).mp he
          omega
      have ha : ag B P ps m = some 0 := by unfold ag; rw [if_neg (fun q => cl q.2)]
      rw [if_pos hw, e0, ha]
      exact h34 (some 0) (fun x hx => by cases hx; omega)
def SI (mp : Nat → Int32) (B : Nat → Nat → Int32) (m : Nat) (r : Option Nat) : Int32 := match r with
  | none => stt mp 8 4 8
  | some _ => if B 13 m = 0 then 200 else stt mp (B 13 m) 4 (thw B m)
def ui (u u' : mo_S) : Prop := (∀ k, k ≠ 32 → k ≠ 33 → k ≠ 36 → k ≠ 37 → u'.1 k = u.1 k) ∧ u'.2 = u.2
def R36 (u u' : mo_S) (r : Option Nat) : Prop := match r with
  | none => u'.1 36 = u.1 36 ∧ u'.1 37 = u.1 37
  | some a => u'.1 36 = 1 ∧ u'.1 37 = nI a
theorem thw_of {m : Nat} (h : mrg rn B m) : B 13 m = nI (thw B m) ∧ thw B m < 16 := by
  have := wi_n (x := B 13 m) (M := 15) (n := 15) (by decide) (by omega) h.2.2.2.2.2.2.2
  exact ⟨this.1, by have := this.2; unfold thw; omega⟩
theorem ms_invoke (hn : n ≤ 24) (h28 : ∀ i, i < n → u.2.2 28 i = P i) (hk : ∀ i, i < n → kc (P i) = true) (h12 : mn ≤ 12) {m : Nat} {ps : List (Nat × Nat)} (hm : m < mn) (hmr : mrg rn B m) (h11 : u.2.2 11 = B 11) (h13 : u.2.2 13 = B 13) (hmp : ∀ k, k < 16 → u.2.2 24 k = mp k ∧ (mp k = 0 ∨ wi (mp k) 100 599 = true)) (h42 : u.1 42 = nI ps.length) (hlen : ps.length ≤ 104) (hg : gokM ps (u.2.2 43) (u.2.2 44)) (hin : ∀ g ∈ ps, g.1 ≤ g.2 ∧ g.2 ≤ n) (h35 : u.1 35 = nI m) : ∃ u', ui u u' ∧ fn_Mo_invoke (some (z + 27)) (me z D t u) = some (me z D t u') ∧ u'.1 32 = SI mp B m (ag B P ps m) ∧ R36 u u' (ag B P ps m) := by
  obtain ⟨t1, t2⟩ := thw_of hmr
  have h23 : ∀ r : Option Nat, (∀ x, r = some x → x < 2 ^ 31) → ∃ u', ui u u' ∧ fn_Mo_invoke_23 (some (z + 27)) (oI r) (me z D t u) = some (me z D t u') ∧ u'.1 32 = SI mp B m r ∧ R36 u u' r := by
    intro r hr
    cases r with
    | none =>
      refine ⟨(upd (upd u.1 33 1) 32 (stt mp 8 4 8), u.2), ⟨fun k a b _ _ => (pk_un a).trans (pk_un b), rfl⟩, ?_, pk_us (f := upd u.1 33 1) (k := 32) (x := stt mp 8 4 8), ?_, ?_⟩
      · have hra := ms_raise (z := z) (D := D) (t := t) (u := u) hmp (j := 8) (by omega)
        rw [show nI 8 = 8 from rfl] at hra
        simp only [fn_Mo_invoke_23, oI, if_neg (show ¬ (0 : Int32) ≤ -1 by decide), mo_ob, Option.bind_some, hra]
      · exact (pk_un (f := upd u.1 33 1) (k := 32) (j := 36) (x := stt mp 8 4 8) (by decide)).trans (pk_un (f := u.1) (k := 33) (j := 36) (x := 1) (by decide))
      · exact (pk_un (f := upd u.1 33 1) (k := 32) (j := 37) (x := stt mp 8 4 8) (by decide)).trans (pk_un (f := u.1) (k := 33) (j := 37) (x := 1) (by decide))
    | some a =>
      have hx : oI (some a) = nI a := rfl
      generalize hu1 : ((upd (upd (upd u.1 36 1) 37 (nI a)) 32 200, u.2) : mo_S) = u1
      have hui : ui u u1 := by rw [← hu1]; exact ⟨fun k a b c d => ((pk_un a).trans (pk_un d)).trans (pk_un c), rfl⟩
      have h2 : u1.2 = u.2 := hui.2
      have e35 : gk_gi (me z D t u1) 12 35 (some (z + 27)) = some (nI m) := by rw [mo_gi_35, hui.1 35 (by decide) (by decide) (by decide) (by decide), h35]
      have e13 : gk_il (me z D t u1) 0 (some (z + 38)) (nI m) = some (B 13 m) := by rw [mo_il_13 (by omega), h2, h13]
      have e32 : u1.1 32 = 200 := by rw [← hu1]; exact pk_us (f := upd (upd u.1 36 1) 37 (nI a)) (k := 32)
      have e36 : u1.1 36 = 1 := by
        rw [← hu1]
        exact ((pk_un (f := upd (upd u.1 36 1) 37 (nI a)) (k := 32) (j := 36) (x := 200) (by decide)).trans (pk_un (f := upd u.1 36 1) (k := 37) (j := 36) (x := nI a) (by decide))).trans (pk_us (f := u.1) (k := 36))
      have e37 : u1.1 37 = nI a := by
        rw [← hu1]
        exact (pk_un (f := upd (upd u.1 36 1) 37 (nI a)) (k := 32) (j := 37) (x := 200) (by decide)).trans (pk_us (f := upd u.1 36 1) (k := 37))
      have hfn : fn_Mo_invoke_23 (some (z + 27)) (nI a) (me z D t u) = if B 13 m ≤ 0 then some (me z D t u1) else (fn_Mo_raise (some (z + 27)) (B 13 m) (me z D t u1)).bind fun w => some w := by
        have ha := nI_pos' (hr a rfl)
        simp only [fn_Mo_invoke_23, if_pos ha, ev_z1, Option.bind_some, mo_pf_36, mo_pf_37, mo_pf_32, hu1, mo_gr_13, e35, e13, mo_ob]
      rw [hx, hfn]
      by_cases c : B 13 m = 0
      · rw [if_pos (by rw [c]; exact Int32.le_refl _)]
        refine ⟨u1, hui, rfl, ?_, e36, e37⟩
        rw [e32]
        simp only [SI, if_pos c]
      · have ht0 : 0 < thw B m := by
          apply Nat.pos_of_ne_zero
          intro q
          rw [q] at t1
          exact c t1
        rw [if_neg (by rw [t1]; exact nI_nle ht0 (by omega))]
        have hra := ms_raise (z := z) (D := D) (t := t) (u := u1) (mp := mp) (fun k hk => by rw [h2]; exact hmp k hk) (j := thw B m) t2
        rw [← t1] at hra
        refine ⟨_, ?_, by rw [hra, Option.bind_some], ?_, ?_, ?_⟩
        · exact ⟨fun k a b c d => ((pk_un a).trans (pk_un b)).trans (hui.1 k a b c d), h2⟩
        · simp only [SI, if_neg c]
          exact pk_us (f := upd u1.1 33 1) (k := 32)
        · exact ((pk_un (f := upd u1.1 33 1) (k := 32) (j := 36) (x := stt mp (B 13 m) 4 (thw B m)) (by decide)).trans (pk_un (f := u1.1) (k := 33) (j := 36) (x := 1) (by decide))).trans e36
        · exact ((pk_un (f := upd u1.1 33 1) (k := 32) (j := 37) (x := stt mp (B 13 m) 4 (thw B m)) (by decide)).trans (pk_un (f := u1.1) (k := 33) (j := 37) (x := 1) (by decide))).trans e37
  have e0 : (0 : Int32) = oI (some 0) := rfl
  have e11 : gk_il (me z D t u) 0 (some (z + 36)) (nI m) = some (B 11 m) := by rw [mo_il_11 (by omega), h11]
  simp only [fn_Mo_invoke, mo_gr_11, Option.bind_some, mo_gi_35, h35, e11, mo_ob]
  rcases cvt_of hmr with hc | ⟨c0, c1, c9⟩
  · have ha : ag B P ps m = some 0 := by
      unfold ag
      rw [if_neg]
      intro q
      rw [hc] at q
      exact absurd q.1 (by decide)
    rw [if_pos (by rw [hc]; decide), e0, ha]
    exact h23 (some 0) (fun x hx => by cases hx; omega)
  · rw [if_neg (by rw [i_nlt]; exact c0)]
    by_cases cl : cvt B m < ps.length
    · have ha : ag B P ps m = nuO P (ps.getD (cvt B m) (0, 0)).1 (ps.getD (cvt B m) (0, 0)).2 := by unfold ag; rw [if_pos ⟨c0, cl⟩]
      have hgk := hg _ cl
      have hi := hin _ (getD_mem (d := (0, 0)) cl)
      have hnum := ms_numberOf (z := z) (D := D) (t := t) hn h28 hk h42 hlen cl hgk.1 hgk.2 hi.1 hi.2
      rw [← ha, ← c1] at hnum
      simp only [hnum, Option.bind_some]
      exact h23 _ (fun x hx => ag_lt hx)
    · have ha : ag B P ps m = some 0 := by unfold ag; rw [if_neg (fun q => cl q.2)]
      have hnum : fn_Mo_numberOf (some (z + 27)) (B 11 m) (me z D t u) = some (0, me z D t u) := by
        rw [c1]
        simp only [fn_Mo_numberOf, mo_gi_42, h42, Option.bind_some, if_neg (nI_nlt (show ps.length ≤ cvt B m by omega) (by omega))]
      rw [ha]
      simp only [hnum, Option.bind_some]
      exact h23 (some 0) (fun x hx => by cases hx; omega)
end
