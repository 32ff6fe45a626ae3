def oD (D : gk_M) (a ci : Nat) (fs : List Value) : gk_M := (va_up D.1 a (some (.inr (ci, fs))), D.2)
theorem od_pf {z : Nat} {D : gk_M} {t : sd_S} {u : mo_S} {a ci k : Nat} {fs fs' : List Value} {v : Value} (ha : z + 61 ≤ a) (hk : k < fs.length) (hfs : fs.set k v = fs') : gk_pf (me z (oD D a ci fs) t u) ci k (some a) v = some (me z (oD D a ci fs') t u) := by
  subst hfs
  rw [dy_pf ha, show gk_pf (oD D a ci fs) ci k (some a) v = _ from pf_ob ob_up hk, Option.map_some]
  show some (me z (va_up (va_up D.1 a _) a _, D.2) t u) = _
  rw [bx_uu]
  rfl
theorem cs_minit {z : Nat} {D : gk_M} {t : sd_S} {u : mo_S} (h : z + 61 ≤ D.2) (x1 x3 x4 x5 x6 : Int32) (ro : Option Nat) : fn_Method_init (some D.2) x1 ro x3 x4 x5 x6 (me z (gk_nw D (.inr (4, df_Method))) t u) = some (me z (gk_nw D (.inr (4, [.int x1, va_rf ro, .int x3, .int x4, .int x5, .int x6, .int (-1), .int 0, .int 0]))) t u) := by
  show fn_Method_init (some D.2) x1 ro x3 x4 x5 x6 (me z (oD (D.1, D.2 + 1) D.2 4 [.int 0, .null, .int 0, .int 0, .int 0, .int 0, .int 0, .int 0, .int 0]) t u) = some (me z (oD (D.1, D.2 + 1) D.2 4 [.int x1, va_rf ro, .int x3, .int x4, .int x5, .int x6, .int (-1), .int 0, .int 0]) t u)
  unfold fn_Method_init
  rw [Option.bind_some]
  rw [od_pf (fs' := [.int 0, .null, .int 0, .int 0, .int 0, .int 0, .int (-1), .int 0, .int 0]) h (by show 6 < 9; decide) rfl, Option.bind_some]
  rw [od_pf (fs' := [.int 0, .null, .int 0, .int 0, .int 0, .int 0, .int (-1), .int 0, .int 0]) h (by show 7 < 9; decide) rfl, Option.bind_some]
  rw [od_pf (fs' := [.int 0, .null, .int 0, .int 0, .int 0, .int 0, .int (-1), .int 0, .int 0]) h (by show 8 < 9; decide) rfl, Option.bind_some]
  rw [od_pf (fs' := [.int x1, .null, .int 0, .int 0, .int 0, .int 0, .int (-1), .int 0, .int 0]) h (by show 0 < 9; decide) rfl, Option.bind_some]
  rw [od_pf (fs' := [.int x1, va_rf ro, .int 0, .int 0, .int 0, .int 0, .int (-1), .int 0, .int 0]) h (by show 1 < 9; decide) rfl, Option.bind_some]
  rw [od_pf (fs' := [.int x1, va_rf ro, .int x3, .int 0, .int 0, .int 0, .int (-1), .int 0, .int 0]) h (by show 2 < 9; decide) rfl, Option.bind_some]
  rw [od_pf (fs' := [.int x1, va_rf ro, .int x3, .int x4, .int 0, .int 0, .int (-1), .int 0, .int 0]) h (by show 3 < 9; decide) rfl, Option.bind_some]
  rw [od_pf (fs' := [.int x1, va_rf ro, .int x3, .int x4, .int x5, .int 0, .int (-1), .int 0, .int 0]) h (by show 4 < 9; decide) rfl, Option.bind_some]
  rw [od_pf (fs' := [.int x1, va_rf ro, .int x3, .int x4, .int x5, .int x6, .int (-1), .int 0, .int 0]) h (by show 5 < 9; decide) rfl, Option.bind_some]
theorem cs_isResource {z : Nat} {D : gk_M} {t : sd_S} {u : mo_S} {rn : Nat} (r2 : t.1 1 = nI rn) (x : Int32) : fn_Catalog_isResource (some (z + 3)) x (me z D t u) = some (b2 (wi x 0 (nI rn - 1)), me z D t u) := by
  simp only [fn_Catalog_isResource, sd_gi_1, r2, Option.bind_some, cs_within, b2_z]
def mcnd (mn n rn : Nat) (g : Bool) (x1 x2 x3 x4 x5 : Int32) : Bool := decide (mn < 12) && ((decide (n = 0) || g) && (wi x1 0 (nI rn - 1) && (wi x2 0 5 && (isTy x3 && (isTy x4 && wi x5 0 1000)))))
theorem n0_eq {n : Nat} (h : n ≤ 24) : (nI n = 0) = (n = 0) := propext ⟨fun q => nI_in2 (by omega) (by omega) q, fun q => by rw [q]; rfl⟩
theorem cs_method {z : Nat} {D : gk_M} {t : sd_S} {u : mo_S} {mn n rn : Nat} (hm : t.1 2 = nI mn) (hm12 : mn ≤ 12) (hb : t.1 0 = nI n) (hn : n ≤ 24) (hk : ∀ i, i < n → kc (t.2.1 2 i) = true) (r2 : t.1 1 = nI rn) (x1 x2 x3 x4 x5 : Int32) : fn_SD_method (some z) x1 x2 x3 x4 x5 (me z D t u) = fn_SD_method_82 (some z) x1 x2 x3 x4 x5 (b2 (mcnd mn n rn (goodT n (t.2.1 2)) x1 x2 x3 x4 x5)) (me z D t u) := by
  have cgood := cs_isGood (tx_buf (z := z) (D := D) (u := u) hb hn) hk
  have e12 : ((12 : Int32) ≤ nI mn) = ¬ mn < 12 := by
    by_cases h : mn < 12
    · simp only [h, not_true_eq_false, eq_iff_iff, iff_false]; exact nI_ge (a := mn) (b := 12) h (by omega)
    · simp only [h, not_false_eq_true, eq_iff_iff, iff_true]; exact nI_le (a := 12) (b := mn) (by omega) (by omega)
  simp only [fn_SD_method, sd_gr_0_1, sd_gi_2, hm, Option.bind_some, sd_gr_0_0, sd_gi_0, hb, cgood, fn_SD_method_32, sd_ob_3, cs_isResource r2, cs_isVerb, cs_isType, cs_within, b2_0, fn_SD_method_81, e12, n0_eq hn, mcnd]
  by_cases h1 : mn < 12 <;> by_cases h2 : n = 0 <;> cases goodT n (t.2.1 2) <;> cases wi x1 0 (nI rn - 1) <;> cases wi x2 0 5 <;> cases isTy x3 <;> cases isTy x4 <;> cases wi x5 0 1000 <;> simp [h1, h2, b2]
theorem ms_method {z : Nat} {D : gk_M} {t : sd_S} {u : mo_S} {mn n rn : Nat} (hm : u.1 5 = nI mn) (hm12 : mn ≤ 12) (hb : u.1 1 = nI n) (hn : n ≤ 24) (hk : ∀ i, i < n → kc (u.2.2 0 i) = true) (r3 : u.1 4 = nI rn) (x1 x2 x3 x4 x5 : Int32) : fn_Mo_method (some (z + 27)) x1 x2 x3 x4 x5 (me z D t u) = fn_Mo_method_78 (some (z + 27)) x1 x2 x3 x4 x5 (b2 (mcnd mn n rn (goodT n (u.2.2 0)) x1 x2 x3 x4 x5)) (me z D t u) := by
  have mgood := ms_good (z := z) (D := D) (t := t) hb hn hk
  have e12 : ((12 : Int32) ≤ nI mn) = ¬ mn < 12 := by
    by_cases h : mn < 12
    · simp only [h, not_true_eq_false, eq_iff_iff, iff_false]; exact nI_ge (a := mn) (b := 12) h (by omega)
    · simp only [h, not_false_eq_true, eq_iff_iff, iff_true]; exact nI_le (a := 12) (b := mn) (by omega) (by omega)
  simp only [fn_Mo_method, mo_gi_1, hb, Option.bind_some, mo_ob, mgood, fn_Mo_method_14, mo_gi_4, r3, mo_gi_5, hm, ms_outside, ms_isType, b2_0, fn_Mo_method_77, e12, n0_eq hn, mcnd]
  by_cases h1 : mn < 12 <;> by_cases h2 : n = 0 <;> cases goodT n (u.2.2 0) <;> cases wi x1 0 (nI rn - 1) <;> cases wi x2 0 5 <;> cases isTy x3 <;> cases isTy x4 <;> cases wi x5 0 1000 <;> simp [h1, h2, b2]
theorem cs_met117 {z : Nat} {D : gk_M} {t : sd_S} {u : mo_S} {mn : Nat} {ro : Option Nat} (h : z + 61 ≤ D.2) (m2 : t.1 2 = nI mn) (hm : mn < 12) (x1 x2 x3 x4 x5 : Int32) : fn_SD_method_117 (some z) x1 x2 x3 x4 x5 ro (me z D t u) = some (nI mn + 1 - 1, me z (gk_nw D (.inr (4, [.int x1, va_rf ro, .int x2, .int x3, .int x4, .int x5, .int (-1), .int 0, .int 0]))) (upd (upd t.1 2 (nI mn + 1)) 0 0, t.2.1, up2r t.2.2 5 mn (some D.2)) u) := by
  have hv : ((some D.2 : Option Nat) = none ∨ (gk_ob (me z (gk_nw D (.inr (4, [.int x1, va_rf ro, .int x2, .int x3, .int x4, .int x5, .int (-1), .int 0, .int 0]))) t u) 4 (some D.2)).isSome = true) := by
    right
    rw [dy_ob h, gk_ob_of (show va_up D.1 D.2 _ D.2 = _ from va_up_self _ _ _)]; rfl
  simp only [fn_SD_method_117, sd_gr_0_1, Option.bind_some, me_2, me_nw h, cs_minit h, sd_ob_3, fn_Catalog_addMethod, sd_gr_3_1, sd_gi_2, m2, sd_sr_5 hm hv, sd_pf_2, fn_SD_method_144, sd_gr_0_0, sd_ob_1, cs_clear, pk_us]
def mB (B : Nat → Nat → Int32) (mn : Nat) (x1 x2 x3 x4 x5 : Int32) : Nat → Nat → Int32 := up2 (up2 (up2 (up2 (up2 (up2 B 6 mn x1) 7 mn x2) 8 mn x3) 9 mn x4) 10 mn x5) 11 mn (-1)
theorem mB_ne {B : Nat → Nat → Int32} {mn m i : Nat} {x1 x2 x3 x4 x5 : Int32} (h : m ≠ mn) : mB B mn x1 x2 x3 x4 x5 i m = B i m := by
  unfold mB up2
  split <;> split <;> split <;> split <;> split <;> split <;> simp [upd, h]
set_option maxHeartbeats 2000000 in
theorem op_method (z : Nat) (x1 x2 x3 x4 x5 : Int32) : op_ok z (Inv z) (fn_SD_method (some z) x1 x2 x3 x4 x5) (fn_Mo_method (some (z + 27)) x1 x2 x3 x4 x5) := by
  intro D t u hI
  obtain ⟨h0, ⟨n, hn, b1, b2', b3⟩, ⟨rn, r1, r2, r3, r4⟩, hm0, hl, hf, hmap, hacc, hout⟩ := hI
  obtain ⟨rn', mn, m1, m2, m3, m4, m5, m6, m7, m8⟩ := id hm0
  have ern : rn' = rn := nI_in2 (by omega) (by omega) (m2.symm.trans r3)
  subst ern
  have hkA : ∀ i, i < n → kc (t.2.1 2 i) = true := fun i hi => (b3 i hi).2
  have hkB : ∀ i, i < n → kc (u.2.2 0 i) = true := fun i hi => by rw [← (b3 i hi).1]; exact (b3 i hi).2
  have hgd : goodT n (t.2.1 2) = goodT n (u.2.2 0) := goodT_congr fun i hi => (b3 i hi).1
  have ec := cs_method (z := z) (D := D) (u := u) m4 m3 b1 hn hkA r2 x1 x2 x3 x4 x5
  have em := fun (D : gk_M) (t : sd_S) => ms_method (z := z) (D := D) (t := t) m5 m3 b2' hn hkB r3 x1 x2 x3 x4 x5
  rw [hgd] at ec
  cases hc : mcnd mn n rn' (goodT n (u.2.2 0)) x1 x2 x3 x4 x5 with
  | false =>
    rw [hc, b2_f] at ec
    refine ⟨-1, D, (upd t.1 0 0, t.2), (upd u.1 1 0, u.2), ?_, ?_, h0, buf_0, ⟨rn', r1, r2, r3, r4⟩, hm0, hl, hf, hmap, hacc, hout⟩
    · rw [ec]; simp only [fn_SD_method_82, if_true, fn_SD_method_144, sd_gr_0_0, sd_ob_1, cs_clear, Option.bind_some]
    · rw [em, hc, b2_f]; simp only [fn_Mo_method_78, if_true, fn_Mo_method_169, mo_pf_1, Option.bind_some]
  | true =>
    rw [hc, b2_t] at ec
    have hc' := hc
    simp only [mcnd, Bool.and_eq_true, Bool.or_eq_true, decide_eq_true_eq] at hc
    obtain ⟨hlt, hng, hw1, hw2, hw3, hw4, hw5⟩ := hc
    obtain ⟨j1, hj1, rfl⟩ := wi_ix (by omega) hw1
    -- the memory with the template, if there is one
    obtain ⟨D1, ro, d1, d2, d3, d4⟩ : ∃ (D1 : gk_M) (ro : Option Nat), kq D D1 ∧ I_D z D1 ∧ fn_SD_method (some z) (nI j1) x2 x3 x4 x5 (me z D t u) = fn_SD_method_117 (some z) (nI j1) x2 x3 x4 x5 ro (me z D1 t u) ∧ ∀ f : Nat → Int32, (∀ i, i < n → f i = u.2.2 0 i) → tmp z D1 ro (nI n) f := by
      by_cases hn0 : n = 0
      · refine ⟨D, none, fun _ _ h => h, h0, ?_, fun f _ => Or.inl ⟨rfl, by rw [hn0]; rfl⟩⟩
        rw [ec]
        simp only [fn_SD_method_82, if_neg e10, sd_gr_0_0, sd_gi_0, b1, Option.bind_some]
        rw [if_pos (by rw [hn0]; rfl)]
      · have hg : goodT n (u.2.2 0) = true := hng.resolve_left hn0
        obtain ⟨D', i1, i2, i3, i4, i5⟩ := cs_tinit (z := z) (u := u) h0 b1 hn hkA
        refine ⟨D', some D.2, i2, i3, ?_, fun f hfe => Or.inr ⟨D.2, n, rfl, rfl, by omega, hn, by rw [goodT_congr hfe]; exact hg, fun i hi => by rw [hfe i hi]; exact hkB i hi, by rw [pieces_congr (f := f) (g := t.2.1 2) (fun i hi => by rw [hfe i hi, (b3 i hi).1])]; exact i4⟩⟩
        rw [ec]
        simp only [fn_SD_method_82, if_neg e10, sd_gr_0_0, sd_gi_0, b1, Option.bind_some, n0_eq hn, hn0, if_false, me_nw h0.1, me_2, i1]
    obtain ⟨B', k1, k2, k3, k4⟩ := ms_keep (z := z) (D := gk_nw D1 (.inr (4, [.int (nI j1), va_rf ro, .int x2, .int x3, .int x4, .int x5, .int (-1), .int 0, .int 0]))) (t := (upd (upd t.1 2 (nI mn + 1)) 0 0, t.2.1, up2r t.2.2 5 mn (some D1.2))) (u := u) (T := 6 + mn) (m := n) (x := 1) (by omega) hn (Or.inr ⟨rfl, b2'⟩) hkB
    have hq2 := kq_nw d2 (.inr (4, [.int (nI j1), va_rf ro, .int x2, .int x3, .int x4, .int x5, .int (-1), .int 0, .int 0]))
    have hq : kq D (gk_nw D1 (.inr (4, [.int (nI j1), va_rf ro, .int x2, .int x3, .int x4, .int x5, .int (-1), .int 0, .int 0]))) := fun a x h => hq2.1 a x (d1 a x h)
    have e6 : (6 : Int32) + nI mn = nI (6 + mn) := by rw [show (6 : Int32) = nI 6 from rfl, nI_add]
    refine ⟨nI mn + 1 - 1, gk_nw D1 (.inr (4, [.int (nI j1), va_rf ro, .int x2, .int x3, .int x4, .int x5, .int (-1), .int 0, .int 0])), (upd (upd t.1 2 (nI mn + 1)) 0 0, t.2.1, up2r t.2.2 5 mn (some D1.2)), (upd (upd u.1 5 (nI mn + 1)) 1 0, u.2.1, mB B' mn (nI j1) x2 x3 x4 x5), ?_, ?_, hq2.2, buf_0, ?_, ?_, ?_, ?_, ?_, ?_, ?_⟩
    · rw [d3]; exact cs_met117 d2.1 m4 hlt _ _ _ _ _
    · rw [em, hc', b2_t]
      simp only [fn_Mo_method_78, if_neg e10, mo_gi_5, m5, Option.bind_some, mo_ob, e6, k1, mo_gr_6, mo_gr_7, mo_gr_8, mo_gr_9, mo_gr_10, mo_gr_11, mo_is_6 hlt, mo_is_7 hlt, mo_is_8 hlt, mo_is_9 hlt, mo_is_10 hlt, mo_is_11 hlt, mo_pf_5, fn_Mo_method_169, mo_pf_1, nar_int]
      rfl
    · show I_res z _ (t.1 1) (t.2.2 4) (u.1 4) (mB B' mn (nI j1) x2 x3 x4 x5 3) (mB B' mn (nI j1) x2 x3 x4 x5 2)
      exact res_kpB (B := u.2.2) (B' := B') (T := 6 + mn) k2 (by omega) (kp_res hq.kp ⟨rn', r1, r2, r3, r4⟩)
    · show I_met z _ (nI mn + 1) (up2r t.2.2 5 mn (some D1.2) 5) (u.1 4) (nI mn + 1) (mB B' mn (nI j1) x2 x3 x4 x5)
      rw [up2r_self, nI_1]
      have hold : ∀ m, m < mn → ∃ o, t.2.2 5 m = some o ∧ o < D1.2 := by
        intro m hm
        obtain ⟨o, tr, g1, g2, g3, -⟩ := m6 m hm
        refine ⟨o, g1, Nat.lt_of_not_le fun hle => ?_⟩
        obtain ⟨b, hb, hD⟩ := gk_ob_eq (kq_ob d1 g3)
        cases hb
        rw [d2.2 o hle] at hD; cases hD
      refine ⟨rn', mn + 1, m1, m2, by omega, rfl, rfl, fun m hm => ?_, fun m m' hm hm' he => ?_, fun m q1 q2 => ?_⟩
      · by_cases hmm : m = mn
        · subst hmm
          refine ⟨D1.2, ro, va_up_self _ _ _, d2.1, ?_, ?_, ?_⟩
          · refine (gk_ob_of (ci := 4) (show va_up D1.1 D1.2 _ D1.2 = _ from va_up_self _ _ _)).trans ?_
            show _ = some [Value.int (upd (B' 6) m (nI j1) m), va_rf ro, .int (upd (B' 7) m x2 m), .int (upd (B' 8) m x3 m), .int (upd (B' 9) m x4 m), .int (upd (B' 10) m x5 m), .int (upd (B' 11) m (-1) m), .int (B' 12 m), .int (B' 13 m)]
            rw [pk_us, pk_us, pk_us, pk_us, pk_us, pk_us, k2.1 12 (by decide) (by decide), k2.1 13 (by decide) (by decide), (m8 m (Nat.le_refl _) hlt).1, (m8 m (Nat.le_refl _) hlt).2]
          · show tmp z _ ro (B' 3 (6 + m)) (fun i => B' 2 (24 * (6 + m) + i))
            rw [k3]
            exact kp_tmp hq2.1.kp (d4 _ k4)
          · refine ⟨⟨j1, hj1, ?_⟩, ?_, ?_, ?_, ?_, ?_, ?_, ?_⟩
            · show upd (B' 6) m (nI j1) m = nI j1
              rw [pk_us]
            · show wi (upd (B' 7) m x2 m) 0 5 = true
              rw [pk_us]; exact hw2
            · show isTy (upd (B' 8) m x3 m) = true
              rw [pk_us]; exact hw3
            · show isTy (upd (B' 9) m x4 m) = true
              rw [pk_us]; exact hw4
            · show wi (upd (B' 10) m x5 m) 0 1000 = true
              rw [pk_us]; exact hw5
            · show wi (upd (B' 11) m (-1) m) (-1) 9 = true
              rw [pk_us]; decide
            · show wi (B' 12 m) 0 3 = true
              rw [k2.1 12 (by decide) (by decide), (m8 m (Nat.le_refl _) hlt).1]; decide
            · show wi (B' 13 m) 0 15 = true
              rw [k2.1 13 (by decide) (by decide), (m8 m (Nat.le_refl _) hlt).2]; decide
        · obtain ⟨o, tr, g1, g2, g3, g4, g5⟩ := m6 m (by omega)
          refine ⟨o, tr, (va_up_ne _ _ hmm).trans g1, g2, ?_, ?_, ?_⟩
          · rw [mB_ne hmm, mB_ne hmm, mB_ne hmm, mB_ne hmm, mB_ne hmm, mB_ne hmm, mB_ne hmm, mB_ne hmm, k2.1 6 (by decide) (by decide), k2.1 7 (by decide) (by decide), k2.1 8 (by decide) (by decide), k2.1 9 (by decide) (by decide), k2.1 10 (by decide) (by decide), k2.1 11 (by decide) (by decide), k2.1 12 (by decide) (by decide), k2.1 13 (by decide) (by decide)]
            exact kq_ob hq g3
          · show tmp z _ tr (B' 3 (6 + m)) (fun i => B' 2 (24 * (6 + m) + i))
            rw [k2.2.1 _ (by omega)]
            exact tmp_congr (fun i hi => (k2.2.2 _ i (by omega) hi).symm) (kp_tmp hq.kp g4)
          · unfold mrg
            rw [mB_ne hmm, mB_ne hmm, mB_ne hmm, mB_ne hmm, mB_ne hmm, mB_ne hmm, mB_ne hmm, mB_ne hmm, k2.1 6 (by decide) (by decide), k2.1 7 (by decide) (by decide), k2.1 8 (by decide) (by decide), k2.1 9 (by decide) (by decide), k2.1 10 (by decide) (by decide), k2.1 11 (by decide) (by decide), k2.1 12 (by decide) (by decide), k2.1 13 (by decide) (by decide)]
            exact g5
      · by_cases a1 : m = mn
        · by_cases a2 : m' = mn
          · omega
          · obtain ⟨o, q1, q2⟩ := hold m' (by omega)
            rw [a1, va_up_self, va_up_ne _ _ a2, q1] at he
            cases he
            omega
        · by_cases a2 : m' = mn
          · obtain ⟨o, q1, q2⟩ := hold m (by omega)
            rw [a2, va_up_self, va_up_ne _ _ a1, q1] at he
            cases he
            omega
          · rw [va_up_ne _ _ a1, va_up_ne _ _ a2] at he
            exact m7 m m' (by omega) (by omega) he
      · rw [mB_ne (by omega), mB_ne (by omega), k2.1 12 (by decide) (by decide), k2.1 13 (by decide) (by decide)]
        exact m8 m (by omega) q2
    · show I_loc z _ (t.1 3) (t.2.2 6) (u.1 4) (u.1 14) (mB B' mn (nI j1) x2 x3 x4 x5)
      exact loc_kpB (B := u.2.2) (B' := B') (T := 6 + mn) k2 (by omega) (kp_loc hq.kp hl)
    · exact fil_kpB (B := u.2.2) (B' := B') (T := 6 + mn) k2 (kp_fil hq.kp hf)
    · show I_map (t.2.1 26) (B' 24)
      rw [k2.1 24 (by decide) (by decide)]; exact hmap
    · show I_acc (t.1 5) (t.2.1 12) (t.2.1 13) (u.1 25) (B' 26) (B' 27)
      rw [k2.1 26 (by decide) (by decide), k2.1 27 (by decide) (by decide)]; exact hacc
    · exact out_kpB (t := t) (u := u) (B' := B') (T := 6 + mn) k2 hout
