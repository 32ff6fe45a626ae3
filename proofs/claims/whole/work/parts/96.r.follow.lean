def sA2 (X : Nat → Nat → Int32) (i j : Nat) (G H : Nat → Int32) : Nat → Nat → Int32 := setA (setA X i G) j H
theorem sA2_j (X : Nat → Nat → Int32) (i j : Nat) (G H : Nat → Int32) : sA2 X i j G H j = H := setA_self _ _ _
theorem sA2_i (X : Nat → Nat → Int32) {i j : Nat} (h : i ≠ j) (G H : Nat → Int32) : sA2 X i j G H i = G := by
  unfold sA2; rw [setA_ne _ _ h, setA_self]
theorem sA2_ne (X : Nat → Nat → Int32) {i j k : Nat} (h : k ≠ i) (h' : k ≠ j) (G H : Nat → Int32) : sA2 X i j G H k = X k := by
  unfold sA2; rw [setA_ne _ _ h', setA_ne _ _ h]
theorem sA2_ui (X : Nat → Nat → Int32) {i j : Nat} (h : i ≠ j) (G H : Nat → Int32) (k : Nat) (x : Int32) : up2 (sA2 X i j G H) i k x = sA2 X i j (upd G k x) H := by
  funext a
  by_cases h1 : a = i
  · subst h1; rw [up2_self, sA2_i _ h, sA2_i _ h]
  · rw [up2_ne _ _ _ h1]
    unfold sA2
    by_cases h2 : a = j
    · subst h2; rw [setA_self, setA_self]
    · rw [setA_ne _ _ h2, setA_ne _ _ h2, setA_ne _ _ h1, setA_ne _ _ h1]
theorem sA2_uj (X : Nat → Nat → Int32) {i j : Nat} (G H : Nat → Int32) (k : Nat) (x : Int32) : up2 (sA2 X i j G H) j k x = sA2 X i j G (upd H k x) := by
  unfold sA2; rw [setA_up]
theorem sA2_0 (X : Nat → Nat → Int32) (i j : Nat) : sA2 X i j (X i) (X j) = X := by
  unfold sA2; rw [setA_id, setA_id]
theorem upd_id (f : Nat → Int32) {k : Nat} {x : Int32} (h : f k = x) : upd f k x = f := by
  funext a
  by_cases e : a = k
  · subst e; rw [pk_us, h]
  · rw [pk_un e]
theorem take_app {ps gs : List (Nat × Nat)} {k : Nat} (hk : k < gs.length) : ps ++ gs.take (k + 1) = (ps ++ gs.take k) ++ [gs.getD k (0, 0)] := by
  rw [List.take_succ_eq_append_getElem hk, List.append_assoc]
  simp [List.getD, hk]
theorem take_len {ps gs : List (Nat × Nat)} {k : Nat} (hk : k ≤ gs.length) : (ps ++ gs.take k).length = ps.length + k := by
  rw [List.length_append, List.length_take_of_le hk]
def tf (t t' : sd_S) : Prop := (∀ k, k ≠ 6 → k ≠ 9 → k ≠ 10 → k ≠ 12 → t'.1 k = t.1 k) ∧ (∀ k, k ≠ 16 → k ≠ 17 → k ≠ 18 → k ≠ 23 → k ≠ 24 → t'.2.1 k = t.2.1 k) ∧ t'.2.2 = t.2.2
theorem cs_follow {z : Nat} {D : gk_M} {t : sd_S} {u : mo_S} {a n s : Nat} {l : List Int32} {ps : List (Nat × Nat)} (hT : tpl z D a l) (hg : ngr l ≤ 4) (h19 : t.1 19 = nI n) (hn : n ≤ 24) (hs : s ≤ n) (h6 : t.1 6 = nI s) (hc : qc n (t.2.1 21) l s = true) (h12 : t.1 12 = nI ps.length) (hps : gok ps (t.2.1 23) (t.2.1 24)) (hlen : ps.length + 4 ≤ 104) : ∃ t' : sd_S, tf t t' ∧ fn_Route_follow (some (z + 14)) (some a) (some (z + 19)) (me z D t u) = some (me z D t' u) ∧ t'.1 6 = nI (qw n (t.2.1 21) l s).2 ∧ t'.1 12 = nI (ps ++ (qw n (t.2.1 21) l s).1).length ∧ gok (ps ++ (qw n (t.2.1 21) l s).1) (t'.2.1 23) (t'.2.1 24) := by
  obtain ⟨t1, q1, q2, q3⟩ := cs_find (u := u) hT hg h19 hn hs
  obtain ⟨r1, r2, r3⟩ := q3 hc
  have hgl : (qw n (t.2.1 21) l s).1.length ≤ 4 := by rw [qw_len]; exact hg
  generalize hgs : (qw n (t.2.1 21) l s).1 = gs at r1 r3 hgl ⊢
  generalize hrs : (qw n (t.2.1 21) l s).2 = rs at r2 ⊢
  have h12' : t1.1 12 = nI ps.length := (q1.1 12 (by decide) (by decide)).trans h12
  obtain ⟨a', w, h1, h2⟩ := lp_to (body := fun (kk : Option Nat × Option Nat × Int32 × gk_M → Option gk_M) a => fn_Route_follow_21_bd (fun a0 a2 x3 M => kk (a0, a2, x3, M)) a.1 a.2.1 a.2.2.1 a.2.2.2) (fun k st => k ≤ gs.length ∧ ∃ G H : Nat → Int32, st = (some (z + 14), some (z + 19), nI k, me z D (upd t1.1 12 (nI (ps.length + k)), sA2 t1.2.1 23 24 G H, t1.2.2) u) ∧ gok (ps ++ gs.take k) G H) gs.length (fun k st hk hst => by
    obtain ⟨-, G, H, rfl, hG⟩ := hst
    have hga := gok_app hG (gs.getD k (0, 0))
    rw [← take_app hk, take_len (by omega)] at hga
    refine ⟨_, ⟨by omega, _, _, rfl, hga⟩, fun kk => ?_⟩
    have e9 : upd t1.1 12 (nI (ps.length + k)) 9 = nI gs.length := (pk_un (by decide)).trans r1
    have e17 : gk_il (me z D (upd t1.1 12 (nI (ps.length + k)), sA2 t1.2.1 23 24 G H, t1.2.2) u) 0 (some (z + 17)) (nI k) = some (nI (gs.getD k (0, 0)).1) := by
      rw [sd_il_17 (by omega)]; exact congrArg some (r3 k hk).1
    have e18 : gk_il (me z D (upd t1.1 12 (nI (ps.length + k)), sA2 t1.2.1 23 24 G H, t1.2.2) u) 0 (some (z + 18)) (nI k) = some (nI (gs.getD k (0, 0)).2) := by
      rw [sd_il_18 (by omega)]; exact congrArg some (r3 k hk).2
    simp only [fn_Route_follow_21_bd, sd_gr_14_0, Option.bind_some, sd_gi_9, e9, if_neg (nI_ge hk (by omega)), sd_gr_15_1, e17, sd_gr_15_2, e18, sd_ob_19, fn_Outcome_addParameter, sd_gi_12, pk_us, sd_gr_19_2, sd_gr_19_3, sd_ln_23, if_neg (nI_ge (show ps.length + k < 104 by omega) (by omega)), sd_is_23 (show ps.length + k < 104 by omega), sd_is_24 (show ps.length + k < 104 by omega), nar_int, sA2_ui _ (show 23 ≠ 24 by decide), sA2_uj, sd_pf_12, upd_upd, nI_1, Nat.add_assoc]) gs.length 0 gk_fuel (some (z + 14), some (z + 19), 0, me z D t1 u) (by omega) (by unfold gk_fuel; omega) ⟨by omega, t1.2.1 23, t1.2.1 24, by rw [sA2_0, upd_id _ (by rw [h12', Nat.add_zero])]; rfl, by rw [List.take_zero, List.append_nil, q1.2.1 23 (by decide) (by decide) (by decide), q1.2.1 24 (by decide) (by decide) (by decide)]; exact hps⟩
  obtain ⟨-, G, H, rfl, hG⟩ := h1
  rw [List.take_length] at hG
  refine ⟨(upd (upd t1.1 12 (nI (ps.length + gs.length))) 6 (nI rs), sA2 t1.2.1 23 24 G H, t1.2.2), ⟨fun k k1 k2 k3 k4 => ?_, fun k k1 k2 k3 k4 k5 => (sA2_ne _ k4 k5 _ _).trans (q1.2.1 k k1 k2 k3), q1.2.2⟩, ?_, rfl, by rw [List.length_append]; rfl, hG⟩
  · show upd (upd t1.1 12 (nI (ps.length + gs.length))) 6 (nI rs) k = t.1 k
    rw [pk_un k1, pk_un k4]
    exact q1.1 k k2 k3
  · simp only [fn_Route_follow, sd_gr_14_0, Option.bind_some, sd_gr_19_0, sd_gi_6, h6, sd_ob_15, q2, hc, b2_t, if_neg e10, fn_Route_follow_21]
    rw [h2]
    have e9 : upd t1.1 12 (nI (ps.length + gs.length)) 9 = nI gs.length := (pk_un (by decide)).trans r1
    have e10' : upd t1.1 12 (nI (ps.length + gs.length)) 10 = nI rs := (pk_un (by decide)).trans r2
    simp only [fn_Route_follow_21_bd, sd_gr_14_0, Option.bind_some, sd_gi_9, e9, if_pos (Int32.le_refl _), sd_gi_10, e10', sd_pf_6]
def uf (u u' : mo_S) : Prop := (∀ k, k ≠ 47 → k ≠ 50 → k ≠ 42 → u'.1 k = u.1 k) ∧ u'.2.1 = u.2.1 ∧ ∀ k, k ≠ 48 → k ≠ 49 → k ≠ 51 → k ≠ 52 → k ≠ 43 → k ≠ 44 → u'.2.2 k = u.2.2 k
theorem ms_count {z : Nat} {D : gk_M} {t : sd_S} {u : mo_S} {T n s : Nat} {P : Nat → Int32} {ps : List (Nat × Nat)} (hT : T < 26) (ht : tgd u.2.2 T) (h0 : 0 < tm u.2.2 T) (hn : n ≤ 24) (h29 : u.1 29 = nI n) (hP : ∀ i, i < n → u.2.2 28 i = P i) (hs : s ≤ n) (hc : qc n P (tl u.2.2 T) s = true) (h42 : u.1 42 = nI ps.length) (hps : gokM ps (u.2.2 43) (u.2.2 44)) (hlen : ps.length + 4 ≤ 104) : ∃ u' : mo_S, uf u u' ∧ fn_Mo_count (some (z + 27)) (nI T) (nI s) (me z D t u) = some (nI (qw n P (tl u.2.2 T) s).2, me z D t u') ∧ u'.1 42 = nI (ps ++ (qw n P (tl u.2.2 T) s).1).length ∧ gokM (ps ++ (qw n P (tl u.2.2 T) s).1) (u'.2.2 43) (u'.2.2 44) := by
  obtain ⟨h3, hm, hg, -, hg4⟩ := ht
  obtain ⟨u1, q1, q2, q3⟩ := ms_match (z := z) (D := D) (t := t) (l := tl u.2.2 T) hT h3 hm hg rfl hn h29 hP hs
  obtain ⟨r1, r3⟩ := q3 h0 hc
  have hgl : (qw n P (tl u.2.2 T) s).1.length ≤ 4 := by rw [qw_len]; exact (hg4 h0).1
  rw [if_pos ⟨h0, hc⟩] at q2
  generalize hgs : (qw n P (tl u.2.2 T) s).1 = gs at r1 r3 hgl ⊢
  generalize hrs : (qw n P (tl u.2.2 T) s).2 = rs at q2 ⊢
  have h42' : u1.1 42 = nI ps.length := (q1.1 42 (by decide) (by decide)).trans h42
  obtain ⟨a', w, h1, h2⟩ := lp_to (body := fun (kk : Option Nat × Int32 × Int32 × gk_M → Option (Int32 × gk_M)) a => fn_Mo_count_10_bd (fun a0 x3 x4 M => kk (a0, x3, x4, M)) a.1 a.2.1 a.2.2.1 a.2.2.2) (fun k st => k ≤ gs.length ∧ ∃ G H : Nat → Int32, st = (some (z + 27), nI rs, nI k, me z D t (upd u1.1 42 (nI (ps.length + k)), u1.2.1, sA2 u1.2.2 43 44 G H)) ∧ gokM (ps ++ gs.take k) G H) gs.length (fun k st hk hst => by
    obtain ⟨-, G, H, rfl, hG⟩ := hst
    have hga := gokM_app hG (gs.getD k (0, 0))
    rw [← take_app hk, take_len (by omega)] at hga
    refine ⟨_, ⟨by omega, _, _, rfl, hga⟩, fun kk => ?_⟩
    have e50 : upd u1.1 42 (nI (ps.length + k)) 50 = nI gs.length := (pk_un (by decide)).trans r1
    have e51 : gk_il (me z D t (upd u1.1 42 (nI (ps.length + k)), u1.2.1, sA2 u1.2.2 43 44 G H)) 0 (some (z + 57)) (nI k) = some (nI (gs.getD k (0, 0)).1) := by
      rw [mo_il_51 (by omega)]; exact congrArg some (r3 k hk).1
    have e52 : gk_il (me z D t (upd u1.1 42 (nI (ps.length + k)), u1.2.1, sA2 u1.2.2 43 44 (upd G (ps.length + k) (nI (gs.getD k (0, 0)).1)) H)) 0 (some (z + 58)) (nI k) = some (nI ((gs.getD k (0, 0)).2 - (gs.getD k (0, 0)).1)) := by
      rw [mo_il_52 (by omega)]; exact congrArg some (r3 k hk).2
    simp only [fn_Mo_count_10_bd, mo_gi_50, e50, Option.bind_some, if_neg (nI_ge hk (by omega)), mo_gr_43, mo_gi_42, pk_us, mo_gr_51, e51, mo_is_43 (show ps.length + k < 112 by omega), nar_int, sA2_ui _ (show 43 ≠ 44 by decide), mo_gr_44, mo_gr_52, e52, mo_is_44 (show ps.length + k < 112 by omega), sA2_uj, mo_pf_42, upd_upd, nI_1, Nat.add_assoc]) gs.length 0 gk_fuel (some (z + 27), nI rs, 0, me z D t u1) (by omega) (by unfold gk_fuel; omega) ⟨by omega, u1.2.2 43, u1.2.2 44, by rw [sA2_0, upd_id _ (by rw [h42', Nat.add_zero])]; rfl, by rw [List.take_zero, List.append_nil, q1.2.2 43 (by decide) (by decide) (by decide) (by decide), q1.2.2 44 (by decide) (by decide) (by decide) (by decide)]; exact hps⟩
  obtain ⟨-, G, H, rfl, hG⟩ := h1
  rw [List.take_length] at hG
  refine ⟨(upd u1.1 42 (nI (ps.length + gs.length)), u1.2.1, sA2 u1.2.2 43 44 G H), ⟨fun k k1 k2 k3 => (pk_un k3).trans (q1.1 k k1 k2), q1.2.1, fun k k1 k2 k3 k4 k5 k6 => (sA2_ne _ k5 k6 _ _).trans (q1.2.2 k k1 k2 k3 k4)⟩, ?_, by rw [List.length_append]; rfl, hG⟩
  simp only [fn_Mo_count, mo_ob, Option.bind_some, q2, fn_Mo_count_10]
  rw [h2]
  have e50 : upd u1.1 42 (nI (ps.length + gs.length)) 50 = nI gs.length := (pk_un (by decide)).trans r1
  simp only [fn_Mo_count_10_bd, mo_gi_50, e50, Option.bind_some, if_pos (Int32.le_refl _)]
