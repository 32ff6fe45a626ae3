theorem tpl_up {z : Nat} {D : gk_M} {a b ci : Nat} {fs fs' : List Value} {l : List Int32} (ho : gk_ob D ci (some a) = some fs) (hc : ci ≠ 2) (ht : tpl z D b l) : tpl z (oD D a ci fs') b l := by
  obtain ⟨h1, p, L, g, h2, h3, h4, h5⟩ := ht
  obtain ⟨a', ha', hDa⟩ := gk_ob_eq ho
  cases ha'
  obtain ⟨b', hb', hDb⟩ := gk_ob_eq h3
  cases hb'
  obtain ⟨p', hp', hDp⟩ := gk_ia_eq h4
  cases hp'
  have hba : b ≠ a := fun e => by subst e; rw [hDa] at hDb; cases hDb; exact hc rfl
  have hpa : p ≠ a := fun e => by subst e; rw [hDa] at hDp; cases hDp
  exact ⟨h1, p, L, g, h2, gk_ob_of ((va_up_ne _ _ hba).trans hDb), gk_ia_of ((va_up_ne _ _ hpa).trans hDp), h5⟩
def lcnd (ln rn : Nat) (g : Bool) (x1 x2 : Int32) : Bool := decide (ln < 8) && (g && (wi x1 0 (nI rn - 1) && wi x2 0 (nI rn - 1)))
theorem e8_of {ln : Nat} (h : ln ≤ 8) : ((8 : Int32) ≤ nI ln) = ¬ ln < 8 := by
  by_cases h' : ln < 8
  · simp only [h', not_true_eq_false, eq_iff_iff, iff_false]; exact nI_ge (a := ln) (b := 8) h' (by omega)
  · simp only [h', not_false_eq_true, eq_iff_iff, iff_true]; exact nI_le (a := 8) (b := ln) (by omega) (by omega)
theorem cs_locator {z : Nat} {D : gk_M} {t : sd_S} {u : mo_S} {ln n rn : Nat} (hl : t.1 3 = nI ln) (hl8 : ln ≤ 8) (hb : t.1 0 = nI n) (hn : n ≤ 24) (hk : ∀ i, i < n → kc (t.2.1 2 i) = true) (r2 : t.1 1 = nI rn) (x1 x2 : Int32) : fn_SD_locator (some z) x1 x2 (me z D t u) = fn_SD_locator_49 (some z) x1 x2 (b2 (lcnd ln rn (goodT n (t.2.1 2)) x1 x2)) (me z D t u) := by
  have cgood := cs_isGood (tx_buf (z := z) (D := D) (u := u) hb hn) hk
  simp only [fn_SD_locator, sd_gr_0_1, sd_gi_3, hl, Option.bind_some, sd_gr_0_0, cgood, sd_ob_3, cs_isResource r2, b2_0, fn_SD_locator_48, e8_of hl8, lcnd]
  by_cases h1 : ln < 8 <;> cases goodT n (t.2.1 2) <;> cases wi x1 0 (nI rn - 1) <;> cases wi x2 0 (nI rn - 1) <;> simp [h1, b2]
theorem ms_locator {z : Nat} {D : gk_M} {t : sd_S} {u : mo_S} {ln n rn : Nat} (hl : u.1 14 = nI ln) (hl8 : ln ≤ 8) (hb : u.1 1 = nI n) (hn : n ≤ 24) (hk : ∀ i, i < n → kc (u.2.2 0 i) = true) (r3 : u.1 4 = nI rn) (x1 x2 : Int32) : fn_Mo_locator (some (z + 27)) x1 x2 (me z D t u) = fn_Mo_locator_56 (some (z + 27)) x1 x2 (b2 (lcnd ln rn (goodT n (u.2.2 0)) x1 x2)) (me z D t u) := by
  have mgood := ms_good (z := z) (D := D) (t := t) hb hn hk
  simp only [fn_Mo_locator, mo_gi_1, hb, Option.bind_some, mo_ob, mgood, mo_gi_4, r3, mo_gi_14, hl, ms_outside, b2_0, fn_Mo_locator_55, e8_of hl8, lcnd]
  by_cases h2 : n = 0
  · subst h2
    have hz : nI 0 ≤ 0 := by decide
    have hg : goodT 0 (u.2.2 0) = false := by simp [goodT]
    rw [if_pos hz, hg]
    simp [b2]
  · rw [if_neg (nI_nle (by omega) (by omega))]
    by_cases h1 : ln < 8 <;> cases goodT n (u.2.2 0) <;> cases wi x1 0 (nI rn - 1) <;> cases wi x2 0 (nI rn - 1) <;> simp [h1, b2]
set_option maxHeartbeats 2000000 in
theorem op_locator (z : Nat) (x1 x2 : Int32) : op_ok z (Inv z) (fn_SD_locator (some z) x1 x2) (fn_Mo_locator (some (z + 27)) x1 x2) := by
  intro D t u hI
  obtain ⟨h0, ⟨n, hn, b1, b2', b3⟩, ⟨rn, r1, r2, r3, r4⟩, hm, hl0, hf, hmap, hacc, hout⟩ := hI
  obtain ⟨rn', ln, l1, l2, l3, l4, l5, l6⟩ := id hl0
  have ern : rn' = rn := nI_in2 (by omega) (by omega) (l2.symm.trans r3)
  subst ern
  have hkA : ∀ i, i < n → kc (t.2.1 2 i) = true := fun i hi => (b3 i hi).2
  have hkB : ∀ i, i < n → kc (u.2.2 0 i) = true := fun i hi => by rw [← (b3 i hi).1]; exact (b3 i hi).2
  have hgd : goodT n (t.2.1 2) = goodT n (u.2.2 0) := goodT_congr fun i hi => (b3 i hi).1
  have ec := cs_locator (z := z) (D := D) (u := u) l4 l3 b1 hn hkA r2 x1 x2
  have em := fun (D : gk_M) (t : sd_S) => ms_locator (z := z) (D := D) (t := t) l5 l3 b2' hn hkB r3 x1 x2
  rw [hgd] at ec
  cases hc : lcnd ln rn' (goodT n (u.2.2 0)) x1 x2 with
  | false =>
    rw [hc, b2_f] at ec
    refine ⟨-1, D, (upd t.1 0 0, t.2), (upd u.1 1 0, u.2), ?_, ?_, h0, buf_0, ⟨rn', r1, r2, r3, r4⟩, hm, hl0, hf, hmap, hacc, hout⟩
    · rw [ec]; simp only [fn_SD_locator_49, if_true, fn_SD_locator_85, sd_gr_0_0, sd_ob_1, cs_clear, Option.bind_some]
    · rw [em, hc, b2_f]; simp only [fn_Mo_locator_56, if_true, fn_Mo_locator_103, mo_pf_1, Option.bind_some]
  | true =>
    rw [hc, b2_t] at ec
    have hc' := hc
    simp only [lcnd, Bool.and_eq_true, decide_eq_true_eq] at hc
    obtain ⟨hlt, hg, hw1, hw2⟩ := hc
    obtain ⟨j1, hj1, rfl⟩ := wi_ix (by omega) hw1
    obtain ⟨j2, hj2, rfl⟩ := wi_ix (by omega) hw2
    have hpos : 0 < n := by
      cases n with
      | zero => simp [goodT] at hg
      | succ m => omega
    have n1 := kq_nw h0 (.inr (5, df_Locator))
    obtain ⟨D2, i1, i2, i3, i4, i5⟩ := cs_tinit (z := z) (t := t) (u := u) n1.2 b1 hn hkA
    have hz := h0.1
    have ha1 : z + 61 ≤ (gk_nw D (.inr (5, df_Locator))).2 := by show z + 61 ≤ D.2 + 1; omega
    have hoa : gk_ob D2 5 (some D.2) = some df_Locator := gk_ob_of (i2 D.2 _ (va_up_self _ _ _))
    have hal : D.2 < D2.2 := by rw [i5]; show D.2 < D.2 + 1 + 2; omega
    have e1 : fn_SD_locator (some z) (nI j1) (nI j2) (me z D t u) = some (nI ln + 1 - 1, me z (oD D2 D.2 5 [.int (nI j1), .ref (D.2 + 1), .int (nI j2)]) (upd (upd t.1 3 (nI ln + 1)) 0 0, t.2.1, up2r t.2.2 6 ln (some D.2)) u) := by
      have hinit : fn_Locator_init (some D.2) (nI j1) (some (D.2 + 1)) (nI j2) (me z D2 t u) = some (me z (oD D2 D.2 5 [.int (nI j1), .ref (D.2 + 1), .int (nI j2)]) t u) := by
        unfold fn_Locator_init fn_Record_init
        rw [Option.bind_some, Option.bind_some, Option.bind_some, dy_pf hz, pf_ob hoa (by decide), Option.map_some, Option.bind_some]
        show (gk_pf (me z (oD D2 D.2 5 [.int (nI j1), .null, .int 0]) t u) 5 1 (some D.2) (va_rf (some (D.2 + 1)))).bind _ = _
        rw [od_pf (fs' := [.int (nI j1), .ref (D.2 + 1), .int 0]) hz (by show 1 < 3; decide) rfl, Option.bind_some, od_pf (fs' := [.int (nI j1), .ref (D.2 + 1), .int (nI j2)]) hz (by show 2 < 3; decide) rfl, Option.bind_some]
      have hv : ((some D.2 : Option Nat) = none ∨ (gk_ob (me z (oD D2 D.2 5 [.int (nI j1), .ref (D.2 + 1), .int (nI j2)]) t u) 5 (some D.2)).isSome = true) := by
        right
        rw [dy_ob hz, show gk_ob (oD D2 D.2 5 _) 5 (some D.2) = _ from ob_up]; rfl
      have e2 : (gk_nw D (.inr (5, df_Locator))).2 = D.2 + 1 := rfl
      rw [ec]
      rw [e2] at i1
      simp only [fn_SD_locator_49, if_neg e10, sd_gr_0_1, sd_gr_0_0, Option.bind_some, me_nw hz, me_nw ha1, me_2, e2, i1, hinit, sd_ob_3, fn_Catalog_addLocator, sd_gr_3_2, sd_gi_3, l4, sd_sr_6 hlt hv, sd_pf_3, fn_SD_locator_85, sd_ob_1, cs_clear, pk_us]
    have hq : kq D (oD D2 D.2 5 [.int (nI j1), .ref (D.2 + 1), .int (nI j2)]) := by
      intro b y hb
      have hne : b ≠ D.2 := fun e => by subst e; rw [h0.2 _ (Nat.le_refl _)] at hb; cases hb
      show va_up D2.1 D.2 _ b = some y
      rw [va_up_ne _ _ hne]
      exact i2 b y (n1.1 b y hb)
    have hD3 : I_D z (oD D2 D.2 5 [.int (nI j1), .ref (D.2 + 1), .int (nI j2)]) := by
      refine ⟨i3.1, fun b hb => ?_⟩
      have hb : D2.2 ≤ b := hb
      show va_up D2.1 D.2 _ b = none
      rw [va_up_ne _ _ (by omega)]
      exact i3.2 b hb
    obtain ⟨B', k1, k2, k3, k4⟩ := ms_keep (z := z) (D := oD D2 D.2 5 [.int (nI j1), .ref (D.2 + 1), .int (nI j2)]) (t := (upd (upd t.1 3 (nI ln + 1)) 0 0, t.2.1, up2r t.2.2 6 ln (some D.2))) (u := u) (T := 18 + ln) (m := n) (x := 1) (by omega) hn (Or.inr ⟨rfl, b2'⟩) hkB
    have e18 : (18 : Int32) + nI ln = nI (18 + ln) := by rw [show (18 : Int32) = nI 18 from rfl, nI_add]
    refine ⟨nI ln + 1 - 1, _, (upd (upd t.1 3 (nI ln + 1)) 0 0, t.2.1, up2r t.2.2 6 ln (some D.2)), (upd (upd u.1 14 (nI ln + 1)) 1 0, u.2.1, up2 (up2 B' 15 ln (nI j1)) 16 ln (nI j2)), e1, ?_, hD3, buf_0, ?_, ?_, ?_, ?_, ?_, ?_, ?_⟩
    · rw [em, hc', b2_t]
      simp only [fn_Mo_locator_56, if_neg e10, mo_gi_14, l5, Option.bind_some, mo_ob, e18, k1, mo_gr_15, mo_gr_16, mo_is_15 hlt, mo_is_16 hlt, mo_pf_14, fn_Mo_locator_103, mo_pf_1, nar_int]
      rfl
    · exact res_kpB (B := u.2.2) (B' := B') (T := 18 + ln) k2 (by omega) (kp_res hq.kp ⟨rn', r1, r2, r3, r4⟩)
    · exact met_kpB (B := u.2.2) (B' := B') (T := 18 + ln) k2 (Or.inr (by omega)) (kq_met hq hm)
    · show I_loc z _ (nI ln + 1) (up2r t.2.2 6 ln (some D.2) 6) (u.1 4) (nI ln + 1) (up2 (up2 B' 15 ln (nI j1)) 16 ln (nI j2))
      rw [up2r_self, nI_1]
      refine ⟨rn', ln + 1, l1, l2, by omega, rfl, rfl, fun l hl => ?_⟩
      by_cases hll : l = ln
      · subst hll
        refine ⟨D.2, some (D.2 + 1), va_up_self _ _ _, hz, ?_, by simp, ?_, ⟨j1, hj1, ?_⟩, ⟨j2, hj2, ?_⟩⟩
        · refine (show gk_ob (oD D2 D.2 5 _) 5 (some D.2) = _ from ob_up).trans ?_
          show _ = some [Value.int (upd (B' 15) l (nI j1) l), va_rf (some (D.2 + 1)), .int (upd (B' 16) l (nI j2) l)]
          rw [pk_us, pk_us]
          rfl
        · show tmp z _ (some (D.2 + 1)) (B' 3 (18 + l)) (fun i => B' 2 (24 * (18 + l) + i))
          rw [k3]
          refine Or.inr ⟨D.2 + 1, n, rfl, rfl, hpos, hn, by rw [goodT_congr k4]; exact hg, fun i hi => (congrArg kc (k4 i hi)).trans (hkB i hi), ?_⟩
          rw [pieces_congr (f := fun i => B' 2 (24 * (18 + l) + i)) (g := t.2.1 2) (fun i hi => by rw [k4 i hi, (b3 i hi).1])]
          exact tpl_up hoa (by decide) i4
        · show upd (B' 15) l (nI j1) l = nI j1
          rw [pk_us]
        · show upd (B' 16) l (nI j2) l = nI j2
          rw [pk_us]
      · obtain ⟨o, tr, g1, g2, g3, g4, g5, g6, g7⟩ := l6 l (by omega)
        refine ⟨o, tr, (va_up_ne _ _ hll).trans g1, g2, ?_, g4, ?_, ?_, ?_⟩
        · show gk_ob _ 5 (some o) = some [Value.int (upd (B' 15) ln (nI j1) l), va_rf tr, .int (upd (B' 16) ln (nI j2) l)]
          rw [pk_un hll, pk_un hll, k2.1 15 (by decide) (by decide), k2.1 16 (by decide) (by decide)]
          exact kq_ob hq g3
        · show tmp z _ tr (B' 3 (18 + l)) (fun i => B' 2 (24 * (18 + l) + i))
          rw [k2.2.1 _ (by omega)]
          exact tmp_congr (fun i hi => (k2.2.2 _ i (by omega) hi).symm) (kp_tmp hq.kp g5)
        · show ∃ j, j < rn' ∧ upd (B' 15) ln (nI j1) l = nI j
          rw [pk_un hll, k2.1 15 (by decide) (by decide)]; exact g6
        · show ∃ j, j < rn' ∧ upd (B' 16) ln (nI j2) l = nI j
          rw [pk_un hll, k2.1 16 (by decide) (by decide)]; exact g7
    · exact fil_kpB (B := u.2.2) (B' := B') (T := 18 + ln) k2 (kp_fil hq.kp hf)
    · show I_map (t.2.1 26) (B' 24)
      rw [k2.1 24 (by decide) (by decide)]; exact hmap
    · show I_acc (t.1 5) (t.2.1 12) (t.2.1 13) (u.1 25) (B' 26) (B' 27)
      rw [k2.1 26 (by decide) (by decide), k2.1 27 (by decide) (by decide)]; exact hacc
    · exact out_kpB (t := t) (u := u) (B' := B') (T := 18 + ln) k2 hout
