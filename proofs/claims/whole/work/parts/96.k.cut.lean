theorem nI_mul (a b : Nat) : nI a * nI b = nI (a * b) := (Int32.ofNat_mul a b).symm
theorem e24 (a : Nat) : (24 : Int32) * nI a = nI (24 * a) := nI_mul 24 a
theorem e25 (a : Nat) : (25 : Int32) * nI a = nI (25 * a) := nI_mul 25 a
theorem cut_c {m : Nat} {f : Nat → Int32} {k : Nat} (h : 0 < psz m f k) : (¬ f k = 123 ∧ psz m f k = 1 ∧ pvl m f k = f k) ∨ (f k = 123 ∧ k + 1 < m ∧ ((f (k + 1) = 125 ∧ psz m f k = 2 ∧ pvl m f k = 1) ∨ (f (k + 1) = 100 ∧ psz m f k = 3 ∧ pvl m f k = 2) ∨ (f (k + 1) = 114 ∧ psz m f k = 3 ∧ pvl m f k = 3))) := by
  unfold psz at h ⊢
  unfold pvl
  by_cases c1 : f k = 125
  · simp [c1] at h
  · by_cases c2 : f k = 123
    · right
      simp only [c1, c2, not_true_eq_false, if_false] at h ⊢
      by_cases c3 : k + 1 < m ∧ f (k + 1) = 125
      · refine ⟨trivial, c3.1, Or.inl ⟨c3.2, ?_⟩⟩
        have e1 : ¬ (125 : Int32) = 100 := by decide
        have e2 : ¬ (125 : Int32) = 114 := by decide
        have e3 : ¬ (123 : Int32) = 125 := by decide
        simp [c3, e1, e2, e3]
      · have e3 : ¬ (123 : Int32) = 125 := by decide
        simp only [e3, c3, if_false] at h ⊢
        split at h
        · rename_i c4
          obtain ⟨⟨c5, c6⟩, c7⟩ := c4
          rcases c6 with c6 | c6
          · refine ⟨trivial, c5, Or.inr (Or.inl ⟨c6, ?_⟩)⟩
            simp [c5, c6, c7]
          · refine ⟨trivial, c5, Or.inr (Or.inr ⟨c6, ?_⟩)⟩
            have e1 : ¬ (114 : Int32) = 100 := by decide
            simp [c5, c6, c7, e1]
        · omega
    · left
      simp [c1, c2]
/-- the reference's pieces -/
theorem ms_cut {z : Nat} {D : gk_M} {t : sd_S} {u : mo_S} {T m : Nat} (hT : T < 26) (h3 : u.2.2 3 T = nI m) (hm : m ≤ 24) (hg : gd m (fun i => u.2.2 2 (24 * T + i)) 0 = true) : ∃ A : Nat → Int32, fn_Mo_cut (some (z + 27)) (nI T) (me z D t u) = some (me z D t (upd u.1 47 (nI (pk m (fun i => u.2.2 2 (24 * T + i)) 0).length), u.2.1, setA u.2.2 48 A)) ∧ ∀ i, i < (pk m (fun i => u.2.2 2 (24 * T + i)) 0).length → A i = (pk m (fun i => u.2.2 2 (24 * T + i)) 0).getD i 0 := by
  generalize hf : (fun i => u.2.2 2 (24 * T + i)) = f at hg ⊢
  have hff : ∀ i, u.2.2 2 (24 * T + i) = f i := fun i => congrFun hf i
  generalize hlq : pk m f 0 = l
  have hlen : ∀ p k, l.drop p = pk m f k → p ≤ k → p ≤ l.length → p ≤ 24 := fun p k _ _ h => by
    have h1 : l.length ≤ m := by
      rw [← hlq]
      exact Nat.le_trans (show (pcs m f (m - 0) 0).length ≤ m - 0 from by
        have : ∀ q k, (pcs m f q k).length ≤ q := by
          intro q
          induction q with
          | zero => intro k; simp [pcs]
          | succ q ih =>
            intro k
            unfold pcs
            split
            · simp only [List.length_cons]; have := ih (k + max 1 (psz m f k)); omega
            · simp
        exact this _ _) (by omega)
    omega
  have hl24 : l.length ≤ 24 := by
    by_cases h : 24 < l.length
    · have := hlen l.length l.length (by rw [List.drop_length, pk_nil]; have h1 : l.length ≤ m → False := fun _ => by omega
                                         omega) (Nat.le_refl _) (Nat.le_refl _)
      omega
    · omega
  obtain ⟨a', w, h1, h2⟩ := lp_to (body := fun (kk : Option Nat × Int32 × Int32 × gk_M → Option gk_M) a => fn_Mo_cut_19_bd (fun a0 x2 x3 M => kk (a0, x2, x3, M)) a.1 a.2.1 a.2.2.1 a.2.2.2) (fun p st => ∃ (k : Nat) (A : Nat → Int32), st = (some (z + 27), nI (24 * T + k), nI (24 * T + m), me z D t (upd u.1 47 (nI p), u.2.1, setA u.2.2 48 A)) ∧ k ≤ m ∧ gd m f k = true ∧ l.drop p = pk m f k ∧ ∀ i, i < p → A i = l.getD i 0) l.length (fun p st hp hst => by
    obtain ⟨k, A, rfl, hkm, hgk, hdr, hA⟩ := hst
    have hkm' : k < m := by
      refine Nat.lt_of_not_le fun hle => ?_
      rw [pk_nil hle, List.drop_eq_nil_iff] at hdr
      omega
    rw [gd_cons hkm', Bool.and_eq_true, decide_eq_true_eq] at hgk
    rw [List.drop_getD hp, pk_cons hkm'] at hdr
    injection hdr with hd1 hd2
    have hmx : max 1 (psz m f k) = psz m f k := Nat.max_eq_right hgk.1
    rw [hmx] at hd2 hgk
    have hin := psz_in (n := m) (f := f) hkm'
    have hA' : ∀ i, i < p + 1 → upd A p (pvl m f k) i = l.getD i 0 := fun i hi => by
      by_cases e : i = p
      · subst e; rw [pk_us, hd1]
      · rw [pk_un e]; exact hA i (by omega)
    have hc0 : gk_il (me z D t (upd u.1 47 (nI p), u.2.1, setA u.2.2 48 A)) 1 (some (z + 29)) (nI (24 * T + k)) = some (f k) := by
      rw [mo_il_2 (by omega), ← hff k]; rfl
    have hgt : ¬ nI (24 * T + m) ≤ nI (24 * T + k) := nI_ge (by omega) (by omega)
    refine ⟨_, ⟨k + psz m f k, upd A p (pvl m f k), rfl, hin, hgk.2, hd2, hA'⟩, fun kk => ?_⟩
    have hne : ∀ x, gk_is (me z D t (upd u.1 47 (nI p), u.2.1, setA u.2.2 48 A)) 0 .int (some (z + 55)) (nI p) x = some (me z D t (upd u.1 47 (nI p), u.2.1, setA u.2.2 48 (upd A p x))) := fun x => by
      rw [mo_is_48 (by omega)]; simp only [setA_up, nar_int]
    have e1 : nI (24 * T + k) + 1 = nI (24 * T + (k + 1)) := nI_1 _
    have e2 : nI (24 * T + k) + 2 = nI (24 * T + (k + 2)) := nI_add (24 * T + k) 2
    have e3 : nI (24 * T + k) + 3 = nI (24 * T + (k + 3)) := nI_add (24 * T + k) 3
    have x1 : ¬ (100 : Int32) = 125 := by decide
    have x2 : ¬ (114 : Int32) = 125 := by decide
    have x3 : ¬ (114 : Int32) = 100 := by decide
    rcases cut_c hgk.1 with ⟨c1, c2, c3⟩ | ⟨c1, c2, c3⟩
    · rw [c2, c3]
      by_cases hk1 : k + 1 < m
      · have hc1 : gk_il (me z D t (upd u.1 47 (nI p), u.2.1, setA u.2.2 48 A)) 1 (some (z + 29)) (nI (24 * T + (k + 1))) = some (f (k + 1)) := by
          rw [mo_il_2 (by omega), ← hff (k + 1)]; rfl
        simp only [fn_Mo_cut_19_bd, if_neg hgt, mo_gr_2, Option.bind_some, hc0, e1, if_neg (nI_ge (show 24 * T + (k + 1) < 24 * T + m by omega) (by omega)), hc1, fn_Mo_cut_52, mo_gr_48, mo_gi_47, pk_us, if_neg c1, fn_Mo_cut_97, hne, fn_Mo_cut_127, mo_pf_47, upd_upd, nI_1]
      · simp only [fn_Mo_cut_19_bd, if_neg hgt, mo_gr_2, Option.bind_some, hc0, e1, if_pos (nI_le (show 24 * T + m ≤ 24 * T + (k + 1) by omega) (by omega)), fn_Mo_cut_52, mo_gr_48, mo_gi_47, pk_us, if_neg c1, fn_Mo_cut_97, hne, fn_Mo_cut_127, mo_pf_47, upd_upd, nI_1]
    · have hc1 : gk_il (me z D t (upd u.1 47 (nI p), u.2.1, setA u.2.2 48 A)) 1 (some (z + 29)) (nI (24 * T + (k + 1))) = some (f (k + 1)) := by
        rw [mo_il_2 (by omega), ← hff (k + 1)]; rfl
      rcases c3 with ⟨c4, c5, c6⟩ | ⟨c4, c5, c6⟩ | ⟨c4, c5, c6⟩
      · rw [c5, c6]
        simp only [fn_Mo_cut_19_bd, if_neg hgt, mo_gr_2, Option.bind_some, hc0, e1, if_neg (nI_ge (show 24 * T + (k + 1) < 24 * T + m by omega) (by omega)), hc1, fn_Mo_cut_52, mo_gr_48, mo_gi_47, pk_us, c1, if_true, c4, fn_Mo_cut_97, hne, fn_Mo_cut_127, mo_pf_47, upd_upd, e2, nI_1]
      · rw [c5, c6]
        simp only [fn_Mo_cut_19_bd, if_neg hgt, mo_gr_2, Option.bind_some, hc0, e1, if_neg (nI_ge (show 24 * T + (k + 1) < 24 * T + m by omega) (by omega)), hc1, fn_Mo_cut_52, mo_gr_48, mo_gi_47, pk_us, c1, if_true, c4, if_neg x1, fn_Mo_cut_97, hne, fn_Mo_cut_127, mo_pf_47, upd_upd, e3, nI_1]
      · rw [c5, c6]
        simp only [fn_Mo_cut_19_bd, if_neg hgt, mo_gr_2, Option.bind_some, hc0, e1, if_neg (nI_ge (show 24 * T + (k + 1) < 24 * T + m by omega) (by omega)), hc1, fn_Mo_cut_52, mo_gr_48, mo_gi_47, pk_us, c1, if_true, c4, if_neg x2, if_neg x3, fn_Mo_cut_97, hne, fn_Mo_cut_127, mo_pf_47, upd_upd, e3, nI_1]) l.length 0 gk_fuel (some (z + 27), nI (24 * T), nI (24 * T + m), me z D t (upd u.1 47 (nI 0), u.2)) (by omega) (by unfold gk_fuel; omega) ⟨0, u.2.2 48, by rw [setA_id]; rfl, by omega, hg, hlq.symm, fun i hi => absurd hi (by omega)⟩
  obtain ⟨k, A, rfl, hkm, hgk, hdr, hA⟩ := h1
  refine ⟨A, ?_, hA⟩
  have hkm' : m ≤ k := by
    refine Nat.le_of_not_lt fun hlt => ?_
    rw [List.drop_length, pk_cons hlt] at hdr
    cases hdr
  unfold fn_Mo_cut
  rw [nI_0] at h2
  simp only [mo_pf_47, Option.bind_some, mo_gr_3, mo_il_3 hT, h3, e24, nI_add, fn_Mo_cut_19]
  rw [h2]
  simp only [fn_Mo_cut_19_bd, if_pos (nI_le (show 24 * T + m ≤ 24 * T + k by omega) (by omega))]
