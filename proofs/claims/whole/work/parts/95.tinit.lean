theorem ngr_app (l : List Int32) (x : Int32) : ngr (l ++ [x]) = ngr l + if x ≤ 3 then 1 else 0 := by
  unfold ngr
  by_cases h : x ≤ 3 <;> simp [h]
theorem nnr_app (l : List Int32) (x : Int32) : nnr (l ++ [x]) = nnr l + if x = 2 ∨ x = 3 then 1 else 0 := by
  unfold nnr
  by_cases h : x = 2 ∨ x = 3 <;> simp [h]
theorem ngr_le (l : List Int32) : ngr l ≤ l.length := List.length_filter_le _ _
theorem nnr_le (l : List Int32) : nnr l ≤ l.length := List.length_filter_le _ _
theorem pvl_123 {n : Nat} {f : Nat → Int32} {k : Nat} (hk : kc (f k) = true) (h : pvl n f k ≤ 3) : pvl n f k = 1 ∨ pvl n f k = 2 ∨ pvl n f k = 3 := by
  unfold pvl at h ⊢
  by_cases c2 : f k = 123
  · by_cases c5 : k + 1 < n ∧ f (k + 1) = 100
    · simp [c2, c5]
    · by_cases c6 : k + 1 < n ∧ f (k + 1) = 114
      · have e : ¬ (114 : Int32) = 100 := by decide
        simp [c2, c6, e]
      · simp [c2, c5, c6]
  · simp only [c2, not_false_eq_true, if_true] at h
    exact absurd h (kc_big hk)
def tE (D0 : gk_M) (n : Nat) (h : Nat → Int32) : gk_M := (va_up (va_up D0.1 D0.2 (some (.inr (2, df_Template)))) (D0.2 + 1) (some (.inl (0, n, .inl h))), D0.2 + 2)
def tF (D0 : gk_M) (n : Nat) (h : Nat → Int32) (l : List Int32) : gk_M := (va_up (tE D0 n h).1 D0.2 (some (.inr (2, [.ref (D0.2 + 1), .int (nI l.length), .int (nI (l.length - ngr l)), .int (nI (ngr l)), .int (nI (nnr l))]))), D0.2 + 2)
theorem tE_ia {D0 : gk_M} {n : Nat} {h : Nat → Int32} : (tE D0 n h).1 (D0.2 + 1) = some (.inl (0, n, .inl h)) := va_up_self _ _ _
theorem tE_ob {D0 : gk_M} {n : Nat} {h : Nat → Int32} : gk_ob (tE D0 n h) 2 (some D0.2) = some df_Template := gk_ob_of ((va_up_ne _ _ (by omega)).trans (va_up_self _ _ _))
theorem tE_is {D0 : gk_M} {n c : Nat} {h : Nat → Int32} {x : Int32} (hc : c < n) (hn : n < 2 ^ 31) : gk_is (tE D0 n h) 0 .int (some (D0.2 + 1)) (nI c) x = some (tE D0 n (upd h c x)) := by
  rw [ev_is tE_ia hc hn]
  refine congrArg some (Prod.ext ?_ rfl)
  show va_up (va_up _ (D0.2 + 1) _) (D0.2 + 1) _ = _
  rw [bx_uu]
  rfl
theorem tF_ok {z : Nat} {D0 : gk_M} (hI : I_D z D0) {n : Nat} {h : Nat → Int32} {l : List Int32} (hl : l.length ≤ n) (hn : n ≤ 24) (hh : ∀ i, i < l.length → h i = l.getD i 0) : kq D0 (tF D0 n h l) ∧ I_D z (tF D0 n h l) ∧ tpl z (tF D0 n h l) D0.2 l := by
  have hz := hI.1
  refine ⟨fun a x ha => ?_, ⟨by show z + 61 ≤ D0.2 + 2; omega, fun a ha => ?_⟩, hz, D0.2 + 1, n, h, by omega, gk_ob_of (va_up_self _ _ _), gk_ia_of ?_, hl, hn, hh⟩
  · have h1 : a ≠ D0.2 := fun e => by subst e; rw [hI.2 _ (Nat.le_refl _)] at ha; cases ha
    have h2 : a ≠ D0.2 + 1 := fun e => by subst e; rw [hI.2 _ (by omega)] at ha; cases ha
    show va_up (va_up (va_up _ _ _) _ _) _ _ a = some x
    rw [va_up_ne _ _ h1, va_up_ne _ _ h2, va_up_ne _ _ h1]
    exact ha
  · have ha : D0.2 + 2 ≤ a := ha
    show va_up (va_up (va_up _ _ _) _ _) _ _ a = none
    rw [va_up_ne _ _ (by omega), va_up_ne _ _ (by omega), va_up_ne _ _ (by omega)]
    exact hI.2 a (by omega)
  · show va_up (va_up _ _ _) _ _ (D0.2 + 1) = _
    rw [va_up_ne _ _ (by omega), va_up_self]
set_option maxHeartbeats 2000000 in
theorem cs_tinit {z : Nat} {D0 : gk_M} {t : sd_S} {u : mo_S} {n : Nat} (hI : I_D z D0) (hs : t.1 0 = nI n) (hn : n ≤ 24) (hk : ∀ i, i < n → kc (t.2.1 2 i) = true) : ∃ D' : gk_M, fn_Template_init (some D0.2) (some (z + 1)) (me z (gk_nw D0 (.inr (2, df_Template))) t u) = some (me z D' t u) ∧ kq D0 D' ∧ I_D z D' ∧ tpl z D' D0.2 (pieces n (t.2.1 2)) ∧ D'.2 = D0.2 + 2 := by
  have hz := hI.1
  generalize hf : t.2.1 2 = f at hk ⊢
  have tx : ∀ D : gk_M, txM (me z D t u) (z + 1) n f := fun D => by rw [← hf]; exact tx_buf hs hn
  have hlen : (pieces n f).length ≤ n := by
    have : ∀ m k, (pcs n f m k).length ≤ m := by
      intro m
      induction m with
      | zero => intro k; exact Nat.le_refl _
      | succ m ih =>
        intro k
        unfold pcs
        split
        · simp only [List.length_cons]; have := ih (k + max 1 (psz n f k)); omega
        · simp
    exact this n 0
  suffices hex : ∃ y, fn_Template_init (some D0.2) (some (z + 1)) (me z (gk_nw D0 (.inr (2, df_Template))) t u) = some y ∧ ∃ h : Nat → Int32, (∀ i, i < (pieces n f).length → h i = (pieces n f).getD i 0) ∧ y = me z (tF D0 n h (pieces n f)) t u by
    obtain ⟨y, e1, h, hh, rfl⟩ := hex
    obtain ⟨r1, r2, r3⟩ := tF_ok hI hlen hn hh
    exact ⟨_, e1, r1, r2, r3, rfl⟩
  have e0 : fn_Template_init (some D0.2) (some (z + 1)) (me z (gk_nw D0 (.inr (2, df_Template))) t u) = fn_Template_init_22 (some D0.2) (some (z + 1)) (some (D0.2 + 1)) 0 0 0 0 (me z (tE D0 n (fun _ => 0)) t u) := by
    simp only [fn_Template_init, Option.bind_some, (tx _).2.2.1, ev_na (n := n) (cap := 24) hn (by omega)]
    rw [me_nw (by show z + 61 ≤ D0.2 + 1; omega)]
    rfl
  rw [e0]
  unfold fn_Template_init_22
  refine ev_loopR (fun a => ∃ (g r k : Nat) (h : Nat → Int32) (dn : List Int32), a = (some D0.2, some (z + 1), some (D0.2 + 1), nI dn.length, nI g, nI r, nI k, me z (tE D0 n h) t u) ∧ dn ++ pk n f k = pieces n f ∧ g = ngr dn ∧ r = nnr dn ∧ (∀ i, i < dn.length → h i = dn.getD i 0) ∧ dn.length ≤ k ∧ k ≤ n) (fun a => 25 - a.2.2.2.2.2.2.1.toNatClampNeg) (fun _ y => ∃ h : Nat → Int32, (∀ i, i < (pieces n f).length → h i = (pieces n f).getD i 0) ∧ y = me z (tF D0 n h (pieces n f)) t u) ?_ gk_fuel _ ⟨0, 0, 0, fun _ => 0, [], rfl, rfl, rfl, rfl, fun i hi => absurd hi (by simp), by simp, by omega⟩ (by show 25 - (0 : Int32).toNatClampNeg < 4096; rw [show (0 : Int32).toNatClampNeg = 0 from rfl]; omega)
  rintro kk _ ⟨g, r, k, h, dn, rfl, hd, rfl, rfl, hh, hck, hkn⟩ hkk
  show ∃ y, fn_Template_init_22_bd (fun a0 a1 a2 x3 x4 x5 x6 M => kk (a0, a1, a2, x3, x4, x5, x6, M)) (some D0.2) (some (z + 1)) (some (D0.2 + 1)) (nI dn.length) (nI (ngr dn)) (nI (nnr dn)) (nI k) (me z (tE D0 n h) t u) = some y ∧ _
  have ha : z + 61 ≤ D0.2 := hz
  have hp : z + 61 ≤ D0.2 + 1 := by omega
  simp only [fn_Template_init_22_bd, (tx _).2.2.1, Option.bind_some]
  by_cases hk2 : n ≤ k
  · rw [if_pos (nI_le hk2 (by omega))]
    rw [pk_nil hk2, List.append_nil] at hd
    subst hd
    have hg := ngr_le (pieces n f)
    refine ⟨me z (tF D0 n h (pieces n f)) t u, ?_, h, hh, rfl⟩
    rw [dy_pf ha, pf_ob tE_ob (by decide), Option.map_some, Option.bind_some, dy_pf ha, pf_ob ob_up (by show 1 < 5; decide), Option.map_some, Option.bind_some]
    simp only [bx_uu]
    rw [dy_pf ha, show ∀ fs : List Value, gk_pf (va_up (tE D0 n h).1 D0.2 (some (.inr (2, fs))), (tE D0 n h).2) 2 2 (some D0.2) (.int (nI (pieces n f).length - nI (ngr (pieces n f)))) = if 2 < fs.length then some (va_up (va_up (tE D0 n h).1 D0.2 (some (.inr (2, fs)))) D0.2 (some (.inr (2, fs.set 2 (.int (nI (pieces n f).length - nI (ngr (pieces n f))))))), (tE D0 n h).2) else none from fun fs => by simp only [gk_pf, ob_up, Option.bind_some, Option.map_some]]
    rw [if_pos (by show 2 < 5; decide), Option.map_some, Option.bind_some]
    simp only [bx_uu]
    rw [dy_pf ha, show ∀ fs : List Value, gk_pf (va_up (tE D0 n h).1 D0.2 (some (.inr (2, fs))), (tE D0 n h).2) 2 3 (some D0.2) (.int (nI (ngr (pieces n f)))) = if 3 < fs.length then some (va_up (va_up (tE D0 n h).1 D0.2 (some (.inr (2, fs)))) D0.2 (some (.inr (2, fs.set 3 (.int (nI (ngr (pieces n f))))))), (tE D0 n h).2) else none from fun fs => by simp only [gk_pf, ob_up, Option.bind_some, Option.map_some]]
    rw [if_pos (by show 3 < 5; decide), Option.map_some, Option.bind_some]
    simp only [bx_uu]
    rw [dy_pf ha, show ∀ fs : List Value, gk_pf (va_up (tE D0 n h).1 D0.2 (some (.inr (2, fs))), (tE D0 n h).2) 2 4 (some D0.2) (.int (nI (nnr (pieces n f)))) = if 4 < fs.length then some (va_up (va_up (tE D0 n h).1 D0.2 (some (.inr (2, fs)))) D0.2 (some (.inr (2, fs.set 4 (.int (nI (nnr (pieces n f))))))), (tE D0 n h).2) else none from fun fs => by simp only [gk_pf, ob_up, Option.bind_some, Option.map_some]]
    rw [if_pos (by show 4 < 5; decide), Option.map_some, Option.bind_some]
    simp only [bx_uu]
    rw [pk_sub hg]
    rfl
  · have hk3 : k < n := by omega
    have hp3 := psz_le n f k
    have hpi := psz_in (f := f) hk3
    have hcn : dn.length < n := by omega
    rw [if_neg (nI_ge hk3 (by omega)), cs_pieceSize (tx _) hk3, Option.bind_some, cs_pieceAt (tx _) hk3, Option.bind_some, dy_is hp, tE_is hcn (by omega), Option.map_some, Option.bind_some]
    rw [dy_il hp, ev_il tE_ia hcn (by omega), Option.bind_some, pk_us, cs_isGroup, Option.bind_some]
    have emx : (if (1 : Int32) < nI (psz n f k) then nI (psz n f k) else 1) = nI (max 1 (psz n f k)) := by
      by_cases q : 1 < psz n f k
      · have q' : (1 : Int32) < nI (psz n f k) := nI_lt (a := 1) q (by omega)
        rw [if_pos q', show max 1 (psz n f k) = psz n f k by omega]
      · have q' : ¬ (1 : Int32) < nI (psz n f k) := nI_nlt (a := 1) (b := psz n f k) (by omega) (by omega)
        rw [if_neg q', show max 1 (psz n f k) = 1 by omega]; rfl
    have enx : nI k + nI (max 1 (psz n f k)) = nI (k + max 1 (psz n f k)) := nI_add _ _
    have hmx : k + max 1 (psz n f k) ≤ n ∧ 1 ≤ max 1 (psz n f k) := by omega
    have next : ∀ g' r' : Nat, g' = ngr (dn ++ [pvl n f k]) → r' = nnr (dn ++ [pvl n f k]) → ∃ y, kk (some D0.2, some (z + 1), some (D0.2 + 1), nI (dn.length + 1), nI g', nI r', nI (k + max 1 (psz n f k)), me z (tE D0 n (upd h dn.length (pvl n f k))) t u) = some y ∧ ∃ h : Nat → Int32, (∀ i, i < (pieces n f).length → h i = (pieces n f).getD i 0) ∧ y = me z (tF D0 n h (pieces n f)) t u := by
      intro g' r' eg er
      refine hkk _ ⟨g', r', k + max 1 (psz n f k), upd h dn.length (pvl n f k), dn ++ [pvl n f k], ?_, ?_, eg, er, ?_, by simp; omega, hmx.1⟩ ?_
      · rw [List.length_append]; rfl
      · rw [List.append_assoc, List.singleton_append, ← pk_cons hk3]; exact hd
      · intro i hi
        simp only [List.length_append, List.length_singleton] at hi
        by_cases hin : i = dn.length
        · subst hin
          rw [pk_us]; simp
        · rw [pk_un hin, hh i (by omega)]
          simp [List.getD_eq_getElem?_getD, List.getElem?_append_left (show i < dn.length by omega)]
      · show 25 - (nI (k + max 1 (psz n f k))).toNatClampNeg < 25 - (nI k).toNatClampNeg
        rw [nI_clamp (by omega), nI_clamp (by omega)]; omega
    simp only [b2_d0, fn_Template_init_81, fn_Template_init_78, emx, enx, nar_int, nI_1]
    by_cases hg : pvl n f k ≤ 3
    · rw [if_neg (fun q => q hg), dy_il hp, ev_il tE_ia hcn (by omega), Option.bind_some, pk_us]
      by_cases h1 : pvl n f k = 1
      · rw [if_pos h1, show nI (nnr dn) + 0 = nI (nnr dn + 0) from by rw [show (0 : Int32) = nI 0 from rfl, nI_add]]
        refine next _ _ (by rw [ngr_app, if_pos hg]) ?_
        rw [nnr_app, h1, if_neg (by decide)]
      · rw [if_neg h1]
        refine next _ _ (by rw [ngr_app, if_pos hg]) ?_
        rw [nnr_app, if_pos ((pvl_123 (hk k hk3) hg).resolve_left h1)]
    · rw [if_pos hg]
      refine next _ _ (by rw [ngr_app, if_neg hg]; rfl) ?_
      rw [nnr_app, if_neg (fun q => hg (by rcases q with q | q <;> rw [q] <;> decide))]
      rfl
