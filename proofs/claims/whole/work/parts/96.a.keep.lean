/-! a template is kept by the reference -/
def kpB (T : Nat) (B B' : Nat → Nat → Int32) : Prop := (∀ i, i ≠ 2 → i ≠ 3 → B' i = B i) ∧ (∀ k, k ≠ T → B' 3 k = B 3 k) ∧ ∀ k i, k ≠ T → i < 24 → B' 2 (24 * k + i) = B 2 (24 * k + i)
theorem ms_keep {z : Nat} {D : gk_M} {t : sd_S} {u : mo_S} {T m : Nat} (hT : T < 26) (hm : m ≤ 24) {x : Int32} (hx : (x = 0 ∧ m = 0) ∨ (x = 1 ∧ u.1 1 = nI m)) (hk : ∀ i, i < m → kc (u.2.2 0 i) = true) : ∃ B' : Nat → Nat → Int32, fn_Mo_keep (some (z + 27)) (nI T) x (me z D t u) = some (me z D t (u.1, u.2.1, B')) ∧ kpB T u.2.2 B' ∧ B' 3 T = nI m ∧ ∀ i, i < m → B' 2 (24 * T + i) = u.2.2 0 i := by
  have e0 : fn_Mo_keep (some (z + 27)) (nI T) x (me z D t u) = fn_Mo_keep_20 (some (z + 27)) (nI T) 0 (me z D t (u.1, u.2.1, up2 u.2.2 3 T (nI m))) := by
    rcases hx with ⟨rfl, rfl⟩ | ⟨rfl, hu⟩
    · simp only [fn_Mo_keep, mo_gr_3, Option.bind_some, if_true, fn_Mo_keep_17, mo_is_3 (j := T) hT, nar_int]
      rfl
    · simp only [fn_Mo_keep, mo_gr_3, Option.bind_some, if_neg e10, fn_Mo_keep_17, mo_gi_1, hu, mo_is_3 (j := T) hT, nar_int]
  rw [e0]
  suffices hex : ∃ y, fn_Mo_keep_20 (some (z + 27)) (nI T) 0 (me z D t (u.1, u.2.1, up2 u.2.2 3 T (nI m))) = some y ∧ ∃ B' : Nat → Nat → Int32, y = me z D t (u.1, u.2.1, B') ∧ kpB T u.2.2 B' ∧ B' 3 T = nI m ∧ ∀ i, i < m → B' 2 (24 * T + i) = u.2.2 0 i by
    obtain ⟨y, h1, B', rfl, h2⟩ := hex
    exact ⟨B', h1, h2⟩
  unfold fn_Mo_keep_20
  refine ev_loopR (fun a => ∃ (k : Nat) (B' : Nat → Nat → Int32), a = (some (z + 27), nI T, nI k, me z D t (u.1, u.2.1, B')) ∧ k ≤ m ∧ kpB T u.2.2 B' ∧ B' 3 T = nI m ∧ ∀ i, i < k → B' 2 (24 * T + i) = u.2.2 0 i) (fun a => 25 - a.2.2.1.toNatClampNeg) (fun _ y => ∃ B' : Nat → Nat → Int32, y = me z D t (u.1, u.2.1, B') ∧ kpB T u.2.2 B' ∧ B' 3 T = nI m ∧ ∀ i, i < m → B' 2 (24 * T + i) = u.2.2 0 i) ?_ gk_fuel _ ⟨0, up2 u.2.2 3 T (nI m), rfl, by omega, ⟨fun i _ h3 => up2_ne _ _ _ h3, fun k hk => by rw [up2_self, pk_un hk], fun k i _ _ => by rw [up2_ne _ _ _ (by decide)]⟩, by rw [up2_self, pk_us], fun i hi => absurd hi (by omega)⟩ (by show 25 - (0 : Int32).toNatClampNeg < 4096; rw [show (0 : Int32).toNatClampNeg = 0 from rfl]; omega)
  rintro kk _ ⟨k, B', rfl, hkm, hB, h3, h2⟩ hkk
  show ∃ y, fn_Mo_keep_20_bd (fun a0 x1 x3 M => kk (a0, x1, x3, M)) (some (z + 27)) (nI T) (nI k) (me z D t (u.1, u.2.1, B')) = some y ∧ _
  simp only [fn_Mo_keep_20_bd, mo_gr_3, mo_gr_2, mo_gr_0, mo_il_3 (j := T) hT, h3, Option.bind_some]
  by_cases hk2 : m ≤ k
  · rw [if_pos (nI_le hk2 (by omega))]
    exact ⟨_, rfl, B', rfl, hB, h3, fun i hi => h2 i (by omega)⟩
  · have hlt : k < m := by omega
    have ei : (24 : Int32) * nI T + nI k = nI (24 * T + k) := by rw [show (24 : Int32) = nI 24 from rfl, pk_mul, nI_add]
    have eb : B' 0 = u.2.2 0 := hB.1 0 (by decide) (by decide)
    have ec : vp_nar .char (B' 0 k) = u.2.2 0 k := by rw [eb]; exact kc_nar (hk k hlt)
    rw [if_neg (nI_ge hlt (by omega)), mo_il_0 (j := k) (by omega), Option.bind_some, ei, mo_is_2 (j := 24 * T + k) (by omega), Option.bind_some, nI_1]
    refine hkk _ ⟨k + 1, up2 B' 2 (24 * T + k) (vp_nar .char (B' 0 k)), rfl, by omega, ⟨fun i h2' h3' => ?_, fun q hq => ?_, fun q i hq hi => ?_⟩, ?_, fun i hi => ?_⟩ ?_
    · rw [up2_ne _ _ _ h2']; exact hB.1 i h2' h3'
    · rw [up2_ne _ _ _ (by decide)]; exact hB.2.1 q hq
    · rw [up2_self, pk_un (by omega)]; exact hB.2.2 q i hq hi
    · rw [up2_ne _ _ _ (by decide)]; exact h3
    · rw [up2_self]
      by_cases hik : i = k
      · subst hik
        rw [pk_us, ec]
      · rw [pk_un (by omega)]; exact h2 i (by omega)
    · show 25 - (nI (k + 1)).toNatClampNeg < 25 - (nI k).toNatClampNeg
      rw [nI_clamp (by omega), nI_clamp (by omega)]; omega
theorem tmp_congr {z : Nat} {D : gk_M} {ro : Option Nat} {sz : Int32} {f g : Nat → Int32} (h : ∀ i, i < 24 → f i = g i) (ht : tmp z D ro sz f) : tmp z D ro sz g := by
  rcases ht with ht | ⟨a, n, h1, h2, h3, h4, h5, h6, h7⟩
  · exact Or.inl ht
  · have hc : ∀ i, i < n → f i = g i := fun i hi => h i (by omega)
    exact Or.inr ⟨a, n, h1, h2, h3, h4, by rw [← goodT_congr hc]; exact h5, fun i hi => by rw [← hc i hi]; exact h6 i hi, by rw [← pieces_congr hc]; exact h7⟩
theorem nI_in2 {a b : Nat} (ha : a < 2 ^ 31) (hb : b < 2 ^ 31) (h : nI a = nI b) : a = b := (nI_eq ha hb).mp h
theorem met_kpB {z : Nat} {D : gk_M} {s2 : Int32} {P5 : Nat → Option Nat} {v4 v5 : Int32} {T : Nat} {B B' : Nat → Nat → Int32} (hB : kpB T B B') (hT : T < 6 ∨ 18 ≤ T) (hI : I_met z D s2 P5 v4 v5 B) : I_met z D s2 P5 v4 v5 B' := by
  obtain ⟨rn, mn, h1, h2, h3, h4, h5, h6, h7, h8⟩ := hI
  refine ⟨rn, mn, h1, h2, h3, h4, h5, fun m hm => ?_, h7, fun m q1 q2 => ?_⟩
  · obtain ⟨o, tr, g1, g2, g3, g4, g5⟩ := h6 m hm
    refine ⟨o, tr, g1, g2, ?_, ?_, ?_⟩
    · rw [hB.1 6 (by decide) (by decide), hB.1 7 (by decide) (by decide), hB.1 8 (by decide) (by decide), hB.1 9 (by decide) (by decide), hB.1 10 (by decide) (by decide), hB.1 11 (by decide) (by decide), hB.1 12 (by decide) (by decide), hB.1 13 (by decide) (by decide)]
      exact g3
    · rw [hB.2.1 _ (by omega)]
      exact tmp_congr (fun i hi => (hB.2.2 _ i (by omega) hi).symm) g4
    · unfold mrg
      rw [hB.1 6 (by decide) (by decide), hB.1 7 (by decide) (by decide), hB.1 8 (by decide) (by decide), hB.1 9 (by decide) (by decide), hB.1 10 (by decide) (by decide), hB.1 11 (by decide) (by decide), hB.1 12 (by decide) (by decide), hB.1 13 (by decide) (by decide)]
      exact g5
  · rw [hB.1 12 (by decide) (by decide), hB.1 13 (by decide) (by decide)]
    exact h8 m q1 q2
theorem loc_kpB {z : Nat} {D : gk_M} {s3 : Int32} {P6 : Nat → Option Nat} {v4 v14 : Int32} {T : Nat} {B B' : Nat → Nat → Int32} (hB : kpB T B B') (hT : T < 18) (hI : I_loc z D s3 P6 v4 v14 B) : I_loc z D s3 P6 v4 v14 B' := by
  obtain ⟨rn, n, h1, h2, h3, h4, h5, h6⟩ := hI
  refine ⟨rn, n, h1, h2, h3, h4, h5, fun l hl => ?_⟩
  obtain ⟨o, tr, g1, g2, g3, g4, g5, g6⟩ := h6 l hl
  refine ⟨o, tr, g1, g2, ?_, g4, ?_, ?_⟩
  · rw [hB.1 15 (by decide) (by decide), hB.1 16 (by decide) (by decide)]; exact g3
  · rw [hB.2.1 _ (by omega)]
    exact tmp_congr (fun i hi => (hB.2.2 _ i (by omega) hi).symm) g5
  · rw [hB.1 15 (by decide) (by decide), hB.1 16 (by decide) (by decide)]; exact g6
theorem res_kpB {z : Nat} {D : gk_M} {s1 : Int32} {P4 : Nat → Option Nat} {v4 : Int32} {T : Nat} {B B' : Nat → Nat → Int32} (hB : kpB T B B') (hT : 6 ≤ T) (hI : I_res z D s1 P4 v4 (B 3) (B 2)) : I_res z D s1 P4 v4 (B' 3) (B' 2) := by
  obtain ⟨rn, h1, h2, h3, h4⟩ := hI
  refine ⟨rn, h1, h2, h3, fun r hr => ?_⟩
  rw [hB.2.1 r (by omega)]
  exact tmp_congr (fun i hi => (hB.2.2 r i (by omega) hi).symm) (h4 r hr)
theorem fil_kpB {z : Nat} {D : gk_M} {s4 : Int32} {P8 : Nat → Option Nat} {A9 A10 : Nat → Int32} {v17 : Int32} {T : Nat} {B B' : Nat → Nat → Int32} (hB : kpB T B B') (hI : I_fil z D s4 P8 A9 A10 v17 B) : I_fil z D s4 P8 A9 A10 v17 B' := by
  unfold I_fil at hI ⊢
  rw [hB.1 18 (by decide) (by decide), hB.1 19 (by decide) (by decide), hB.1 20 (by decide) (by decide), hB.1 21 (by decide) (by decide), hB.1 22 (by decide) (by decide)]
  exact hI
theorem met_rn {z : Nat} {D : gk_M} {s2 : Int32} {P5 : Nat → Option Nat} {v5 : Int32} {B : Nat → Nat → Int32} {rn : Nat} (h : rn < 6) (hI : I_met z D s2 P5 (nI rn) v5 B) : I_met z D s2 P5 (nI (rn + 1)) v5 B := by
  obtain ⟨rn', mn, h1, h2, h3, h4, h5, h6, h7⟩ := hI
  have e := nI_in2 (by omega) (by omega) h2
  subst e
  refine ⟨rn + 1, mn, by omega, rfl, h3, h4, h5, fun m hm => ?_, h7⟩
  obtain ⟨o, tr, g1, g2, g3, g4, ⟨j, hj, ej⟩, g6⟩ := h6 m hm
  exact ⟨o, tr, g1, g2, g3, g4, ⟨j, by omega, ej⟩, g6⟩
theorem loc_rn {z : Nat} {D : gk_M} {s3 : Int32} {P6 : Nat → Option Nat} {v14 : Int32} {B : Nat → Nat → Int32} {rn : Nat} (h : rn < 6) (hI : I_loc z D s3 P6 (nI rn) v14 B) : I_loc z D s3 P6 (nI (rn + 1)) v14 B := by
  obtain ⟨rn', n, h1, h2, h3, h4, h5, h6⟩ := hI
  have e := nI_in2 (by omega) (by omega) h2
  subst e
  refine ⟨rn + 1, n, by omega, rfl, h3, h4, h5, fun l hl => ?_⟩
  obtain ⟨o, tr, g1, g2, g3, g4, g5, ⟨j, hj, ej⟩, ⟨j', hj', ej'⟩⟩ := h6 l hl
  exact ⟨o, tr, g1, g2, g3, g4, g5, ⟨j, by omega, ej⟩, ⟨j', by omega, ej'⟩⟩
theorem out_kpB {t : sd_S} {u : mo_S} {T : Nat} {B' : Nat → Nat → Int32} (hB : kpB T u.2.2 B') (hI : I_out t u) : I_out t (u.1, u.2.1, B') := by
  unfold I_out at hI ⊢
  show ∃ pn, I_pth _ _ _ (B' 28) pn ∧ I_hop _ _ _ (B' 41) ∧ I_par _ _ _ _ (B' 43) (B' 44) pn ∧ I_ran _ _ _ (B' 46) ∧ _
  rw [hB.1 28 (by decide) (by decide), hB.1 41 (by decide) (by decide), hB.1 43 (by decide) (by decide), hB.1 44 (by decide) (by decide), hB.1 46 (by decide) (by decide)]
  exact hI
