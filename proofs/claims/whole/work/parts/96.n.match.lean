theorem ms_walk {z : Nat} {D : gk_M} {t : sd_S} {u : mo_S} {n s : Nat} {P : Nat → Int32} {l : List Int32} (hn : n ≤ 24) (h29 : u.1 29 = nI n) (hP : ∀ i, i < n → u.2.2 28 i = P i) (hl24 : l.length ≤ 24) (h47 : u.1 47 = nI l.length) (hpc : ∀ p, p < l.length → u.2.2 48 p = l.getD p 0) (hK : ∀ p, p ≤ l.length → ∀ j, j ≤ n → u.2.2 49 (25 * p + j) = b2 (qc n P (l.drop p) j)) (hs : s ≤ n) (hc : qc n P l s = true) : ∃ G H : Nat → Int32, fn_Mo_match_151 (some (z + 27)) (nI s) 0 (me z D t (upd u.1 50 0, u.2.1, u.2.2)) = some (nI (qw n P l s).2, me z D t (upd u.1 50 (nI (qw n P l s).1.length), u.2.1, mA u.2.2 (u.2.2 49) G H)) ∧ gokM (qw n P l s).1 G H := by
  unfold fn_Mo_match_151
  obtain ⟨a', w, h1, h2⟩ := lp_to (body := fun (kk : Option Nat × Int32 × Int32 × gk_M → Option (Int32 × gk_M)) a => fn_Mo_match_151_bd (fun a0 x3 x4 M => kk (a0, x3, x4, M)) a.1 a.2.1 a.2.2.1 a.2.2.2) (fun p st => p ≤ l.length ∧ ∃ (e : Nat) (gs : List (Nat × Nat)) (G H : Nat → Int32), st = (some (z + 27), nI e, nI p, me z D t (upd u.1 50 (nI gs.length), u.2.1, mA u.2.2 (u.2.2 49) G H)) ∧ s ≤ e ∧ e ≤ n ∧ qc n P (l.drop p) e = true ∧ (qw n P l s) = (gs ++ (qw n P (l.drop p) e).1, (qw n P (l.drop p) e).2) ∧ gokM gs G H) l.length (fun p st hp hst => by
    obtain ⟨-, e, gs, G, H, rfl, hse, hen, hce, hw, hgs⟩ := hst
    rw [List.drop_getD hp] at hce hw
    obtain ⟨e', he'⟩ := Option.isSome_iff_exists.mp (show (qL n P (l.getD p 0) (qc n P (l.drop (p + 1))) e).isSome = true from hce)
    obtain ⟨q1, q2, q3, q4⟩ := qL_some hen he'
    have hlo := ms_longest (z := z) (D := D) (t := t) (u := (upd u.1 50 (nI gs.length), u.2.1, mA u.2.2 (u.2.2 49) G H)) (P := P) (pc := l.getD p 0) (C := qc n P (l.drop (p + 1))) hn h29 hP (show p < 24 by omega) (hpc p hp) hen (fun e he he' => hK (p + 1) (by omega) e he')
    rw [he'] at hlo
    have hlo : fn_Mo_longest (some (z + 27)) (nI p) (nI e) (me z D t (upd u.1 50 (nI gs.length), u.2.1, mA u.2.2 (u.2.2 49) G H)) = some (nI (e' - e), me z D t (upd u.1 50 (nI gs.length), u.2.1, mA u.2.2 (u.2.2 49) G H)) := hlo
    have hrd : gk_il (me z D t (upd u.1 50 (nI gs.length), u.2.1, mA u.2.2 (u.2.2 49) G H)) 0 (some (z + 55)) (nI p) = some (l.getD p 0) := by
      rw [mo_il_48 (by omega), ← hpc p hp]; rfl
    have h47' : upd u.1 50 (nI gs.length) 47 = nI l.length := (pk_un (by decide)).trans h47
    have hglen : gs.length + ngr (l.getD p 0 :: l.drop (p + 1)) ≤ 24 := by
      have h1 := congrArg (fun x => x.1.length) hw
      simp only [List.length_append, qw_len] at h1
      have h2 := ngr_le l
      omega
    have hsum : nI e + nI (e' - e) = nI e' := by rw [nI_add]; congr 1; omega
    simp only [qw, he', Option.getD_some] at hw
    by_cases hgp : l.getD p 0 ≤ 3
    · rw [ngr_cons, if_pos hgp] at hglen
      refine ⟨_, ⟨by omega, e', gs ++ [(e, e')], upd G gs.length (nI e), upd H gs.length (nI (e' - e)), rfl, by omega, q2, q3, ?_, gokM_app hgs (e, e')⟩, fun kk => ?_⟩
      · rw [hw, if_pos hgp, List.append_assoc]
      · have hgp' : ¬ 3 < l.getD p 0 := by rw [i_nlt]; exact hgp
        simp only [fn_Mo_match_151_bd, mo_gi_47, h47', Option.bind_some, if_neg (nI_ge hp (by omega)), mo_ob, hlo, mo_gr_48, hrd, if_neg hgp', mo_gr_51, mo_gi_50, pk_us, mo_is_51 (show gs.length < 24 by omega), mo_gr_52, mo_is_52 (show gs.length < 24 by omega), mo_pf_50, nar_int, mA_u51, mA_u52, fn_Mo_match_211, hsum, nI_1, upd_upd, List.length_append, List.length_singleton]
    · refine ⟨_, ⟨by omega, e', gs, G, H, rfl, by omega, q2, q3, ?_, hgs⟩, fun kk => ?_⟩
      · rw [hw, if_neg hgp, List.nil_append]
      · have hgp' : 3 < l.getD p 0 := by rw [← i_nle]; exact hgp
        simp only [fn_Mo_match_151_bd, mo_gi_47, h47', Option.bind_some, if_neg (nI_ge hp (by omega)), mo_ob, hlo, mo_gr_48, hrd, if_pos hgp', fn_Mo_match_211, hsum, nI_1]) l.length 0 gk_fuel (some (z + 27), nI s, nI 0, me z D t (upd u.1 50 0, u.2.1, u.2.2)) (by omega) (by unfold gk_fuel; omega) ⟨by omega, s, [], u.2.2 51, u.2.2 52, by rw [← mA_0, setA_id]; rfl, Nat.le_refl _, hs, hc, rfl, fun k hk => absurd hk (by simp)⟩
  obtain ⟨-, e, gs, G, H, rfl, hse, hen, hce, hw, hgs⟩ := h1
  rw [List.drop_length] at hw
  simp only [qw, List.append_nil] at hw
  rw [hw]
  refine ⟨G, H, ?_, hgs⟩
  rw [nI_0] at h2
  rw [h2]
  have h47' : upd u.1 50 (nI gs.length) 47 = nI l.length := (pk_un (by decide)).trans h47
  simp only [fn_Mo_match_151_bd, mo_gi_47, h47', Option.bind_some, if_pos (Int32.le_refl _)]
theorem pk_len {m : Nat} {f : Nat → Int32} : (pk m f 0).length ≤ m := by
  have : ∀ q k, (pcs m f q k).length ≤ q := by
    intro q
    induction q with
    | zero => intro k; simp [pcs]
    | succ q ih =>
      intro k
      unfold pcs
      split
      · simp only [List.length_cons]; have := ih (k + max 1 (psz m f k)); omega
      · simp
  exact this (m - 0) 0
theorem ms_match {z : Nat} {D : gk_M} {t : sd_S} {u : mo_S} {T m n s : Nat} {P : Nat → Int32} {l : List Int32} (hT : T < 26) (h3 : u.2.2 3 T = nI m) (hm : m ≤ 24) (hg : gd m (fun i => u.2.2 2 (24 * T + i)) 0 = true) (hl : pk m (fun i => u.2.2 2 (24 * T + i)) 0 = l) (hn : n ≤ 24) (h29 : u.1 29 = nI n) (hP : ∀ i, i < n → u.2.2 28 i = P i) (hs : s ≤ n) : ∃ u' : mo_S, uq u u' ∧ fn_Mo_match (some (z + 27)) (nI T) (nI s) (me z D t u) = some (if 0 < m ∧ qc n P l s = true then nI (qw n P l s).2 else -1, me z D t u') ∧ (0 < m → qc n P l s = true → u'.1 50 = nI (qw n P l s).1.length ∧ gokM (qw n P l s).1 (u'.2.2 51) (u'.2.2 52)) := by
  obtain ⟨A, hA1, hA2⟩ := ms_cut (z := z) (D := D) (t := t) hT h3 hm hg
  have hl24 : l.length ≤ 24 := by
    have := pk_len (m := m) (f := fun i => u.2.2 2 (24 * T + i))
    rw [hl] at this
    omega
  rw [hl] at hA1 hA2
  obtain ⟨K, w, hK1, hK2⟩ := ms_can (z := z) (D := D) (t := t) (u := (upd u.1 47 (nI l.length), u.2.1, setA u.2.2 48 A)) (n := n) (s := s) (T := T) (P := P) (l := l) hn h29 hP hl24 rfl hA2 (nI T)
  have hK1 : fn_Mo_match_7 (some (z + 27)) (nI T) (nI s) 0 (me z D t (upd u.1 47 (nI l.length), u.2.1, setA u.2.2 48 A)) = fn_Mo_match_66_bd (fun a0 x1 x2 x3 M => gk_loop (α := Option Nat × Int32 × Int32 × Int32 × gk_M) (fun kk a => fn_Mo_match_66_bd (fun a0 x1 x2 x3 M => kk (a0, x1, x2, x3, M)) a.1 a.2.1 a.2.2.1 a.2.2.2.1 a.2.2.2.2) w (a0, x1, x2, x3, M)) (some (z + 27)) (nI T) (nI s) (-1) (me z D t (upd u.1 47 (nI l.length), u.2.1, setA (setA u.2.2 48 A) 49 K)) := hK1
  have hneg : (-1 : Int32) < 0 := by decide
  have h3' : gk_il (me z D t (upd u.1 47 (nI l.length), u.2.1, setA (setA u.2.2 48 A) 49 K)) 0 (some (z + 30)) (nI T) = some (nI m) := by
    rw [mo_il_3 hT, ← h3]; rfl
  have hc' : gk_il (me z D t (upd u.1 47 (nI l.length), u.2.1, setA (setA u.2.2 48 A) 49 K)) 2 (some (z + 56)) (nI s) = some (b2 (qc n P l s)) := by
    rw [mo_il_49 (by omega)]
    have := hK2 0 (by omega) s hs
    rw [Nat.mul_zero, Nat.zero_add, List.drop_zero] at this
    simp only [setA_self, this]
  have hst : fn_Mo_match (some (z + 27)) (nI T) (nI s) (me z D t u) = fn_Mo_match_66_bd (fun a0 x1 x2 x3 M => gk_loop (α := Option Nat × Int32 × Int32 × Int32 × gk_M) (fun kk a => fn_Mo_match_66_bd (fun a0 x1 x2 x3 M => kk (a0, x1, x2, x3, M)) a.1 a.2.1 a.2.2.1 a.2.2.2.1 a.2.2.2.2) w (a0, x1, x2, x3, M)) (some (z + 27)) (nI T) (nI s) (-1) (me z D t (upd u.1 47 (nI l.length), u.2.1, setA (setA u.2.2 48 A) 49 K)) := by
    rw [← hK1]
    simp only [fn_Mo_match, mo_ob, Option.bind_some, hA1]
  rw [hst]
  have hu0 : uq u (upd u.1 47 (nI l.length), u.2.1, setA (setA u.2.2 48 A) 49 K) := ⟨fun k k1 _ => pk_un k1, rfl, fun k k1 k2 _ _ => (setA_ne _ _ k2).trans (setA_ne _ _ k1)⟩
  by_cases hm0 : 0 < m
  · cases hc : qc n P l s with
    | false =>
      refine ⟨_, hu0, ?_, fun _ h => absurd h (by decide)⟩
      rw [hc] at hc'
      simp only [fn_Mo_match_66_bd, if_pos hneg, mo_gr_3, Option.bind_some, h3', if_neg (nI_ne0 hm0 (by omega)), mo_gr_49, hc', b2_f, if_true, Bool.false_eq_true, and_false, if_false]
    | true =>
      rw [hc] at hc'
      obtain ⟨G, H, g1, g2⟩ := ms_walk (z := z) (D := D) (t := t) (u := (upd u.1 47 (nI l.length), u.2.1, setA (setA u.2.2 48 A) 49 K)) (n := n) (s := s) (P := P) (l := l) hn h29 hP hl24 rfl hA2 hK2 hs hc
      refine ⟨(upd (upd u.1 47 (nI l.length)) 50 (nI (qw n P l s).1.length), u.2.1, mA (setA (setA u.2.2 48 A) 49 K) K G H), ?_, ?_, fun _ _ => ⟨rfl, g2⟩⟩
      · exact ⟨fun k k1 k2 => (pk_un k2).trans (pk_un k1), rfl, fun k k1 k2 k3 k4 => (mA_ne _ _ _ _ k2 k3 k4).trans ((setA_ne _ _ k2).trans (setA_ne _ _ k1))⟩
      · simp only [fn_Mo_match_66_bd, if_pos hneg, mo_gr_3, Option.bind_some, h3', if_neg (nI_ne0 hm0 (by omega)), mo_gr_49, hc', b2_t, if_neg e10, mo_pf_50, hm0, and_self, if_true]
        exact g1
  · have : m = 0 := by omega
    subst this
    refine ⟨_, hu0, ?_, fun h => absurd h (by omega)⟩
    simp only [fn_Mo_match_66_bd, if_pos hneg, mo_gr_3, Option.bind_some, h3', nI_0, if_true, Nat.lt_irrefl, false_and, if_false]
