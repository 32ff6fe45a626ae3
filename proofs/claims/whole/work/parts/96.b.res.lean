theorem cs_clear {z : Nat} {D : gk_M} {t : sd_S} {u : mo_S} : fn_Text_clear (some (z + 1)) (me z D t u) = some (me z D (upd t.1 0 0, t.2) u) := by
  simp only [fn_Text_clear, sd_pf_0, Option.bind_some]
theorem cs_res59 {z : Nat} {D : gk_M} {t : sd_S} {u : mo_S} {rn : Nat} {ro : Option Nat} (r2 : t.1 1 = nI rn) (hr : rn < 6) (hv : ro = none ∨ (gk_ob (me z D t u) 2 ro).isSome = true) : fn_SD_resource_59 (some z) (some (z + 3)) ro (me z D t u) = some (nI rn + 1 - 1, me z D (upd (upd t.1 1 (nI rn + 1)) 0 0, t.2.1, up2r t.2.2 4 rn ro) u) := by
  simp only [fn_SD_resource_59, sd_ob_3, Option.bind_some, fn_Catalog_addResource, sd_gr_3_0, sd_gi_1, r2, sd_sr_4 hr hv, sd_pf_1, fn_SD_resource_66, sd_gr_0_0, sd_ob_1, cs_clear, pk_us]
theorem ms_res39 {z : Nat} {D : gk_M} {t : sd_S} {u : mo_S} {x : Int32} (hx : x = 0 ∨ x = 1) : fn_Mo_resource_39 (some (z + 27)) x (me z D t u) = if x = 0 then some (-1, me z D t (upd (upd u.1 1 0) 4 (u.1 4), u.2)) else some (u.1 4 + 1 - 1, me z D t (upd (upd u.1 1 0) 4 (u.1 4 + 1), u.2)) := by
  have e : upd u.1 1 0 4 = u.1 4 := rfl
  rcases hx with rfl | rfl
  · simp only [fn_Mo_resource_39, mo_pf_1, Option.bind_some, if_true, mo_gi_4, fn_Mo_resource_62, mo_pf_4, e]
  · simp only [fn_Mo_resource_39, mo_pf_1, Option.bind_some, if_neg e10, mo_gi_4, fn_Mo_resource_62, mo_pf_4, e, pk_us]
theorem buf_0 {A2 B0 : Nat → Int32} : I_buf 0 A2 0 B0 := ⟨0, by omega, rfl, rfl, fun i h => absurd h (by omega)⟩
set_option maxHeartbeats 1000000 in
theorem op_resource (z : Nat) (x : Int32) (hx : x = 0 ∨ x = 1) : op_ok z (Inv z) (fn_SD_resource (some z) x) (fn_Mo_resource (some (z + 27)) x) := by
  intro D t u hI
  obtain ⟨h0, ⟨n, hn, b1, b2', b3⟩, ⟨rn, r1, r2, r3, r4⟩, hm, hl, hf, hmap, hacc, hout⟩ := hI
  have hkA : ∀ i, i < n → kc (t.2.1 2 i) = true := fun i hi => (b3 i hi).2
  have hkB : ∀ i, i < n → kc (u.2.2 0 i) = true := fun i hi => by rw [← (b3 i hi).1]; exact (b3 i hi).2
  have hgd : goodT n (t.2.1 2) = goodT n (u.2.2 0) := goodT_congr fun i hi => (b3 i hi).1
  have cgood := cs_isGood (tx_buf (z := z) (D := D) (u := u) b1 hn) hkA
  have mgood := fun (D : gk_M) (t : sd_S) => ms_good (z := z) (D := D) (t := t) b2' hn hkB
  -- refused
  have bad : ∀ (_ : fn_SD_resource (some z) x (me z D t u) = fn_SD_resource_66 (some z) (-1) (me z D t u)) (_ : ∀ t', fn_Mo_resource (some (z + 27)) x (me z D t' u) = fn_Mo_resource_39 (some (z + 27)) 0 (me z D t' u)), ∃ (r : Int32) (D' : gk_M) (t' : sd_S) (u' : mo_S), fn_SD_resource (some z) x (me z D t u) = some (r, me z D' t' u) ∧ fn_Mo_resource (some (z + 27)) x (me z D' t' u) = some (r, me z D' t' u') ∧ Inv z D' t' u' := by
    intro h1 h2
    refine ⟨-1, D, (upd t.1 0 0, t.2), (upd (upd u.1 1 0) 4 (u.1 4), u.2), ?_, ?_, h0, buf_0, ⟨rn, r1, r2, r3, r4⟩, hm, hl, hf, hmap, hacc, hout⟩
    · rw [h1]
      simp only [fn_SD_resource_66, sd_gr_0_0, sd_ob_1, cs_clear, Option.bind_some]
    · rw [h2, ms_res39 (Or.inl rfl), if_pos rfl]
  by_cases hfull : rn < 6
  · have c6 : ¬ (6 : Int32) ≤ nI rn := nI_ge (a := rn) (b := 6) hfull (by omega)
    -- taken
    have ok : ∀ (D' : gk_M) (ro : Option Nat) (m : Nat), ((x = 0 ∧ m = 0) ∨ (x = 1 ∧ u.1 1 = nI m)) → m ≤ 24 → (∀ i, i < m → kc (u.2.2 0 i) = true) → kq D D' → I_D z D' → fn_SD_resource (some z) x (me z D t u) = fn_SD_resource_59 (some z) (some (z + 3)) ro (me z D' t u) → (ro = none ∨ (gk_ob (me z D' t u) 2 ro).isSome = true) → (∀ t', fn_Mo_resource (some (z + 27)) x (me z D' t' u) = fn_Mo_resource_25 (some (z + 27)) x 1 (me z D' t' u)) → (∀ f : Nat → Int32, (∀ i, i < m → f i = u.2.2 0 i) → tmp z D' ro (nI m) f) → ∃ (r : Int32) (D' : gk_M) (t' : sd_S) (u' : mo_S), fn_SD_resource (some z) x (me z D t u) = some (r, me z D' t' u) ∧ fn_Mo_resource (some (z + 27)) x (me z D' t' u) = some (r, me z D' t' u') ∧ Inv z D' t' u' := by
      intro D' ro m hxm hm24 hkm hq hD' e1 hv e2 htm
      obtain ⟨B', k1, k2, k3, k4⟩ := ms_keep (z := z) (D := D') (t := (upd (upd t.1 1 (nI rn + 1)) 0 0, t.2.1, up2r t.2.2 4 rn ro)) (u := u) (T := rn) (by omega) hm24 hxm hkm
      refine ⟨nI rn + 1 - 1, D', (upd (upd t.1 1 (nI rn + 1)) 0 0, t.2.1, up2r t.2.2 4 rn ro), (upd (upd u.1 1 0) 4 (u.1 4 + 1), u.2.1, B'), ?_, ?_, hD', buf_0, ?_, ?_, ?_, ?_, ?_, ?_, ?_⟩
      · rw [e1]; exact cs_res59 r2 hfull hv
      · rw [e2]
        simp only [fn_Mo_resource_25, if_neg e10, mo_gi_4, Option.bind_some, mo_ob, r3, k1]
        rw [ms_res39 (Or.inr rfl), if_neg e10]
        show some (u.1 4 + 1 - 1, _) = _
        rw [r3]
      · show I_res z D' (nI rn + 1) (up2r t.2.2 4 rn ro 4) (u.1 4 + 1) (B' 3) (B' 2)
        rw [r3, nI_1, up2r_self]
        refine ⟨rn + 1, by omega, rfl, rfl, fun r hr => ?_⟩
        by_cases hrn : r = rn
        · subst hrn
          rw [va_up_self, k3]
          exact htm _ k4
        · rw [va_up_ne _ _ hrn, k2.2.1 r hrn]
          exact tmp_congr (fun i hi => (k2.2.2 r i hrn hi).symm) (kp_tmp hq.kp (r4 r (by omega)))
      · show I_met z D' (t.1 2) (t.2.2 5) (u.1 4 + 1) (u.1 5) B'
        rw [r3, nI_1]
        refine met_rn hfull (met_kpB k2 (Or.inl hfull) (kq_met hq ?_))
        rw [← r3]; exact hm
      · show I_loc z D' (t.1 3) (t.2.2 6) (u.1 4 + 1) (u.1 14) B'
        rw [r3, nI_1]
        refine loc_rn hfull (loc_kpB k2 (by omega) (kp_loc hq.kp ?_))
        rw [← r3]; exact hl
      · exact fil_kpB k2 (kp_fil hq.kp hf)
      · show I_map (t.2.1 26) (B' 24)
        rw [k2.1 24 (by decide) (by decide)]; exact hmap
      · show I_acc (t.1 5) (t.2.1 12) (t.2.1 13) (u.1 25) (B' 26) (B' 27)
        rw [k2.1 26 (by decide) (by decide), k2.1 27 (by decide) (by decide)]; exact hacc
      · exact out_kpB (t := t) (u := u) k2 hout
    rcases hx with rfl | rfl
    · refine ok D none 0 (Or.inl ⟨rfl, rfl⟩) (by omega) (fun i hi => absurd hi (by omega)) (fun _ _ h => h) h0 ?_ (Or.inl rfl) (fun t' => ?_) (fun f _ => Or.inl ⟨rfl, rfl⟩)
      · simp only [fn_SD_resource, sd_gr_0_1, sd_gi_1, r2, Option.bind_some, if_neg c6, if_true, fn_SD_resource_26, fn_SD_resource_31, if_neg e10]
      · simp only [fn_Mo_resource, mo_gi_4, r3, Option.bind_some, if_neg c6, if_true, fn_Mo_resource_20]
    · by_cases hg : goodT n (t.2.1 2) = true
      · obtain ⟨D', i1, i2, i3, i4, i5⟩ := cs_tinit (z := z) (u := u) h0 b1 hn hkA
        have hgB : goodT n (u.2.2 0) = true := by rw [← hgd]; exact hg
        have hpos : 0 < n := by
          cases n with
          | zero => simp [goodT] at hg
          | succ m => omega
        refine ok D' (some D.2) n (Or.inr ⟨rfl, b2'⟩) hn hkB i2 i3 ?_ (Or.inr ?_) (fun t' => ?_) (fun f hfe => Or.inr ⟨D.2, n, rfl, rfl, hpos, hn, ?_, fun i hi => by rw [hfe i hi]; exact hkB i hi, ?_⟩)
        · simp only [fn_SD_resource, sd_gr_0_1, sd_gi_1, r2, Option.bind_some, if_neg c6, if_neg e10, sd_gr_0_0, cgood, hg, b2_t, fn_SD_resource_26, fn_SD_resource_31, me_nw h0.1, me_2, i1]
        · obtain ⟨-, p, L, g, -, ho, -⟩ := i4
          rw [dy_ob h0.1, ho]; rfl
        · simp only [fn_Mo_resource, mo_gi_4, r3, Option.bind_some, if_neg c6, if_neg e10, mo_ob, mgood, hgB, b2_t, fn_Mo_resource_20]
        · rw [goodT_congr hfe]; exact hgB
        · rw [pieces_congr (f := f) (g := t.2.1 2) (fun i hi => by rw [hfe i hi, (b3 i hi).1])]; exact i4
      · have hg : goodT n (t.2.1 2) = false := by simpa using hg
        have hgB : goodT n (u.2.2 0) = false := by rw [← hgd]; exact hg
        refine bad ?_ (fun t' => ?_)
        · simp only [fn_SD_resource, sd_gr_0_1, sd_gi_1, r2, Option.bind_some, if_neg c6, if_neg e10, sd_gr_0_0, cgood, hg, b2_f, if_true, fn_SD_resource_30, fn_SD_resource_31]
        · simp only [fn_Mo_resource, mo_gi_4, r3, Option.bind_some, if_neg c6, if_neg e10, mo_ob, mgood, hgB, b2_f, if_true, fn_Mo_resource_24, fn_Mo_resource_25]
  · have c6 : (6 : Int32) ≤ nI rn := nI_le (a := 6) (b := rn) (by omega) (by omega)
    refine bad ?_ (fun t' => ?_)
    · simp only [fn_SD_resource, sd_gr_0_1, sd_gi_1, r2, Option.bind_some, if_pos c6, fn_SD_resource_30, fn_SD_resource_31, if_true]
    · simp only [fn_Mo_resource, mo_gi_4, r3, Option.bind_some, if_pos c6, fn_Mo_resource_24, fn_Mo_resource_25, if_true]
