section
variable {z : Nat} {D : gk_M} {mn nf : Nat} {B : Nat → Nat → Int32} {t : sd_S} {u : mo_S} {ρ : Nat → Nat} {mo : Option Nat}
theorem ms_ran (hF : FM nf B u) (hn : nf ≤ 8) {L : List Nat} (hR : RQ u L) (hL : L.length < 8) {f : Nat} (hf : f < nf) : ∃ u1, uv u u1 ∧ u1.1 30 = u.1 30 ∧ u1.1 32 = u.1 32 ∧ u1.1 33 = u.1 33 ∧ (∀ g, u1.2.2 23 g = if g = f then 1 else u.2.2 23 g) ∧ RQ u1 (L ++ [f]) ∧ ∀ K52 x1 x3, fa_run K52 (some (z + 27)) x1 x3 (nI f) (me z D t u) = (if 2 ≤ x1 then K52 (some (z + 27)) x1 (x3 + 1) (me z D t u1) else if B 21 f = u.1 31 then (fn_Mo_meetHeader (some (z + 27)) (B 22 f) (me z D t u1)).bind (fun w => K52 (some (z + 27)) x1 (x3 + 1) w) else K52 (some (z + 27)) x1 (x3 + 1) (me z D t u1)) := by
  generalize hu1 : ((upd u.1 45 (nI (L.length + 1)), u.2.1, up2 (up2 u.2.2 23 f 1) 46 L.length (nI f)) : mo_S) = u1
  have q : uv u u1 := by
    rw [← hu1]
    exact ⟨fun k _ _ _ d => pk_un d, rfl, fun k a b => (up2_ne _ _ _ b).trans (up2_ne _ _ _ a)⟩
  have hF1 := hF.uv q
  refine ⟨u1, q, ?_, ?_, ?_, fun g => ?_, ⟨?_, fun i hi => ?_⟩, fun K52 x1 x3 => ?_⟩
  · rw [← hu1]; exact pk_un (f := u.1) (k := 45) (j := 30) (x := nI (L.length + 1)) (by decide)
  · rw [← hu1]; exact pk_un (f := u.1) (k := 45) (j := 32) (x := nI (L.length + 1)) (by decide)
  · rw [← hu1]; exact pk_un (f := u.1) (k := 45) (j := 33) (x := nI (L.length + 1)) (by decide)
  · rw [← hu1]
    show up2 (up2 u.2.2 23 f 1) 46 L.length (nI f) 23 g = _
    rw [up2_ne _ _ _ (by decide), up2_self]
    rfl
  · rw [← hu1, List.length_append, List.length_singleton]
    exact pk_us (f := u.1) (k := 45)
  · rw [List.length_append, List.length_singleton] at hi
    rw [← hu1]
    show up2 (up2 u.2.2 23 f 1) 46 L.length (nI f) 46 i = _
    rw [up2_self, up2_ne _ _ _ (by decide)]
    by_cases e : i = L.length
    · subst e; rw [pk_us, getD_e]
    · rw [pk_un e, getD_l (by omega)]; exact hR.2 i (by omega)
  · have hs : gk_is (me z D t u) 2 .boolean (some (z + 46)) (nI f) 1 = some (me z D t (u.1, u.2.1, up2 u.2.2 23 f 1)) := by rw [mo_is_23 (by omega)]; rfl
    have e21 : gk_il (me z D t u1) 0 (some (z + 44)) (nI f) = some (B 21 f) := by rw [mo_il_21 (by omega), hF1.2.2 21 (by decide) (by decide)]
    have e22 : gk_il (me z D t u1) 0 (some (z + 45)) (nI f) = some (B 22 f) := by rw [mo_il_22 (by omega), hF1.2.2 22 (by decide) (by decide)]
    have e31 : gk_gi (me z D t u1) 12 31 (some (z + 27)) = some (u.1 31) := by rw [mo_gi_31, q.1 31 (by decide) (by decide) (by decide) (by decide)]
    have e46 : gk_is (me z D t (u.1, u.2.1, up2 u.2.2 23 f 1)) 0 .int (some (z + 54)) (nI L.length) (nI f) = some (me z D t (u.1, u.2.1, up2 (up2 u.2.2 23 f 1) 46 L.length (nI f))) := by rw [mo_is_46 hL]; rfl
    have epf : gk_pf (me z D t (u.1, u.2.1, up2 (up2 u.2.2 23 f 1) 46 L.length (nI f))) 12 45 (some (z + 27)) (.int (nI (L.length + 1))) = some (me z D t u1) := by rw [mo_pf_45, ← hu1]
    unfold fa_run
    simp only [mo_gr_23, Option.bind_some, hs, mo_gr_46, mo_gi_45, hR.1, e46, nI_1, epf, mo_gr_21, e21, e31, mo_gr_22, e22, mo_ob, fn_Mo_filterAll_234]
theorem ms_hv {v w : Int32} (hv : ¬ 100 ≤ v) (h : HV u v) : ∃ u', uv u u' ∧ u'.2 = u.2 ∧ u'.1 45 = u.1 45 ∧ fn_Mo_meetHeader (some (z + 27)) w (me z D t u) = some (me z D t u') ∧ HV u' w := by
  obtain ⟨h1, h2⟩ := h.1 hv
  by_cases c : 100 ≤ w
  · refine ⟨(upd (upd u.1 32 w) 33 1, u.2), ⟨fun k _ b c' _ => (pk_un c').trans (pk_un b), rfl, fun _ _ _ => rfl⟩, rfl, ?_, ?_, fun q => absurd c q, fun _ => ⟨?_, ?_⟩⟩
    · exact (pk_un (f := upd u.1 32 w) (k := 33) (j := 45) (x := 1) (by decide)).trans (pk_un (f := u.1) (k := 32) (j := 45) (x := w) (by decide))
    · rw [← i_nlt] at c
      simp only [fn_Mo_meetHeader, if_neg c, mo_pf_32, Option.bind_some, ev_z1, mo_pf_33]
    · exact pk_us (f := upd u.1 32 w) (k := 33)
    · exact (pk_un (f := upd u.1 32 w) (k := 33) (j := 32) (x := 1) (by decide)).trans pk_us
  · refine ⟨(upd u.1 30 w, u.2), ⟨fun k a _ _ _ => pk_un a, rfl, fun _ _ _ => rfl⟩, rfl, ?_, ?_, fun _ => ⟨?_, ?_⟩, fun q => absurd q c⟩
    · exact pk_un (f := u.1) (k := 30) (j := 45) (x := w) (by decide)
    · have c' : w < 100 := by rw [← i_nle]; exact c
      simp only [fn_Mo_meetHeader, if_pos c', mo_pf_30, Option.bind_some]
    · exact (pk_un (f := u.1) (k := 30) (j := 33) (x := w) (by decide)).trans h1
    · exact pk_us (f := u.1) (k := 30)
theorem gF_100 {E : Nat → Bool} {hd v : Int32} (h : 100 ≤ v) : ∀ k i, gF ρ E hd B k i v = (v, [])
  | 0, _ => rfl
  | k + 1, i => by simp only [gF, if_pos h]
theorem ms_fa (hn : nf ≤ 8) {K : Nat} (hK : K < 2) (hO : ORD nf ρ (qq B K)) (E : Nat → Bool) (hd : Int32) : ∀ (k i F c : Nat) (v : Int32) (u : mo_S) (L : List Nat), i + k = nf → k < F → c ≤ i → FM nf B u → u.1 31 = hd → HV u v → (∀ f, f < nf → u.2.2 23 f = b2 (!UU ρ E i f)) → RQ u L → L.length + (gF ρ E hd B k i v).2.length ≤ 8 → ∃ u', uv u u' ∧ gk_loop (α := Option Nat × Int32 × Int32 × gk_M) (fun kk a => fn_Mo_filterAll_52_bd (fun a0 x1 x3 M => kk (a0, x1, x3, M)) a.1 a.2.1 a.2.2.1 a.2.2.2) F (some (z + 27), nI K, nI c, me z D t u) = some (me z D t u') ∧ HV u' (gF ρ E hd B k i v).1 ∧ RQ u' (L ++ (gF ρ E hd B k i v).2) := by
  have x2 : nI K < 2 := nI_lt (a := K) (b := 2) hK (by omega)
  have x2' : ¬ (2 : Int32) ≤ nI K := nI_ge (a := K) (b := 2) hK (by omega)
  have over : ∀ (F c : Nat) (v : Int32) (u : mo_S), 100 ≤ v → HV u v → 0 < F → gk_loop (α := Option Nat × Int32 × Int32 × gk_M) (fun kk a => fn_Mo_filterAll_52_bd (fun a0 x1 x3 M => kk (a0, x1, x3, M)) a.1 a.2.1 a.2.2.1 a.2.2.2) F (some (z + 27), nI K, nI c, me z D t u) = some (me z D t u) := by
    intro F c v u hv hH hF
    obtain ⟨F, rfl⟩ : ∃ F', F = F' + 1 := ⟨F - 1, by omega⟩
    rw [gk_loop_s]
    show fn_Mo_filterAll_52_bd _ (some (z + 27)) (nI K) (nI c) (me z D t u) = _
    unfold fn_Mo_filterAll_52_bd
    rw [mo_gi_33, (hH.2 hv).1]
    by_cases c8 : (8 : Int32) ≤ nI c
    · rw [if_pos c8]
    · rw [if_neg c8, Option.bind_some, if_neg e10, if_pos x2]
  intro k
  induction k with
  | zero =>
    intro i F c v u L hi hF hc hM h31 hH hU hR hL
    have : i = nf := by omega
    subst this
    refine ⟨u, uv.refl u, ?_, hH, by simp only [gF, List.append_nil]; exact hR⟩
    by_cases hv : 100 ≤ v
    · exact over F c v u hv hH (by omega)
    · obtain ⟨F, rfl⟩ : ∃ F', F = F' + 1 := ⟨F - 1, by omega⟩
      rw [gk_loop_s]
      show fn_Mo_filterAll_52_bd _ (some (z + 27)) (nI K) (nI c) (me z D t u) = _
      unfold fn_Mo_filterAll_52_bd
      rw [mo_gi_33, (hH.1 hv).1]
      by_cases c8 : (8 : Int32) ≤ nI c
      · rw [if_pos c8]
      · rw [if_neg c8, Option.bind_some, if_pos rfl, ms_pick hM hn (by omega) hU, pick_n hO, if_neg (show ¬ 0 ≤ oI none by show ¬ (0 : Int32) ≤ -1; decide)]
  | succ k ih =>
    intro i F c v u L hi hF hc hM h31 hH hU hR hL
    by_cases hv : 100 ≤ v
    · rw [gF_100 hv] at hL ⊢
      exact ⟨u, uv.refl u, over F c v u hv hH (by omega), hH, by simp only [List.append_nil]; exact hR⟩
    · rcases bool_or (E (ρ i)) with hE | hE
      · have eg : gF ρ E hd B (k + 1) i v = gF ρ E hd B k (i + 1) v := by simp only [gF, if_neg hv, hE, Bool.false_eq_true, if_false]
        rw [eg] at hL ⊢
        exact ih (i + 1) F c v u L (by omega) (by omega) (by omega) hM h31 hH (fun f hf => by rw [UU_f hE]; exact hU f hf) hR hL
      · have eg : gF ρ E hd B (k + 1) i v = ((gF ρ E hd B k (i + 1) (if B 21 (ρ i) = hd then B 22 (ρ i) else v)).1, ρ i :: (gF ρ E hd B k (i + 1) (if B 21 (ρ i) = hd then B 22 (ρ i) else v)).2) := by simp only [gF, if_neg hv, hE, if_true]
        rw [eg] at hL ⊢
        simp only [List.length_cons] at hL
        obtain ⟨F, rfl⟩ : ∃ F', F = F' + 1 := ⟨F - 1, by omega⟩
        obtain ⟨u1, q1, a30, a32, a33, a23, aR, arun⟩ := ms_ran (z := z) (D := D) (t := t) hM hn hR (by omega) (hO.1 i (by omega))
        have hH1 : HV u1 v := ⟨fun q => ⟨a33.trans (hH.1 q).1, a30.trans (hH.1 q).2⟩, fun q => absurd q hv⟩
        have c8 : ¬ (8 : Int32) ≤ nI c := nI_ge (a := c) (b := 8) (by omega) (by omega)
        have hU1 : ∀ f, f < nf → u1.2.2 23 f = b2 (!UU ρ E (i + 1) f) := fun f hf => by
          rw [a23, UU_t]
          by_cases e : f = ρ i
          · rw [if_pos e, decide_eq_true e.symm, Bool.not_true, Bool.and_false]; rfl
          · rw [if_neg e, decide_eq_false (fun q => e q.symm), Bool.not_false, Bool.and_true]; exact hU f hf
        rw [gk_loop_s]
        show ∃ u', uv u u' ∧ fn_Mo_filterAll_52_bd _ (some (z + 27)) (nI K) (nI c) (me z D t u) = _ ∧ _
        unfold fn_Mo_filterAll_52_bd
        rw [mo_gi_33, (hH.1 hv).1, if_neg c8, Option.bind_some, if_pos rfl, ms_pick hM hn (by omega) hU, pick_i hO (by omega) hE]
        have hx : oI (some (ρ i)) = nI (ρ i) := rfl
        have hri := hO.1 i (by omega)
        rw [hx, if_pos (nI_pos' (show ρ i < 2 ^ 31 by omega)), arun, if_neg x2', h31]
        by_cases ch : B 21 (ρ i) = hd
        · rw [if_pos ch] at hL ⊢
          rw [if_pos ch]
          obtain ⟨u2, q2, b1, b2', b3, b4⟩ := ms_hv (z := z) (D := D) (t := t) (w := B 22 (ρ i)) hv hH1
          obtain ⟨u', g1, g2, g3, g4⟩ := ih (i + 1) F (c + 1) (B 22 (ρ i)) u2 (L ++ [ρ i]) (by omega) (by omega) (by omega) ((hM.uv q1).uv q2) (((q1.trans q2).1 31 (by decide) (by decide) (by decide) (by decide)).trans h31) b4 (fun f hf => by rw [b1]; exact hU1 f hf) ⟨b2'.trans aR.1, fun j hj => by rw [b1]; exact aR.2 j hj⟩ (by rw [List.length_append, List.length_singleton]; omega)
          refine ⟨u', (q1.trans q2).trans g1, ?_, g3, by rw [List.append_assoc] at g4; exact g4⟩
          rw [b3, Option.bind_some, nI_1]
          exact g2
        · rw [if_neg ch] at hL ⊢
          rw [if_neg ch]
          obtain ⟨u', g1, g2, g3, g4⟩ := ih (i + 1) F (c + 1) v u1 (L ++ [ρ i]) (by omega) (by omega) (by omega) (hM.uv q1) ((q1.1 31 (by decide) (by decide) (by decide) (by decide)).trans h31) hH1 hU1 aR (by rw [List.length_append, List.length_singleton]; omega)
          refine ⟨u', q1.trans g1, ?_, g3, by rw [List.append_assoc] at g4; exact g4⟩
          rw [nI_1]
          exact g2
def uz (u u' : mo_S) : Prop := (∀ k, k ≠ 45 → u'.1 k = u.1 k) ∧ u'.2.1 = u.2.1 ∧ ∀ k, k ≠ 23 → k ≠ 46 → u'.2.2 k = u.2.2 k
theorem ms_fe (hn : nf ≤ 8) (hO : ORD nf ρ (qq B 2)) (E : Nat → Bool) : ∀ (k i F c : Nat) (u : mo_S) (L : List Nat), i + k = nf → k < F → c ≤ i → FM nf B u → (∀ f, f < nf → u.2.2 23 f = b2 (!UU ρ E i f)) → RQ u L → L.length + (gE ρ E k i).length ≤ 8 → ∃ u', uv u u' ∧ (u'.1 30 = u.1 30 ∧ u'.1 32 = u.1 32 ∧ u'.1 33 = u.1 33) ∧ gk_loop (α := Option Nat × Int32 × Int32 × gk_M) (fun kk a => fn_Mo_filterAll_52_bd (fun a0 x1 x3 M => kk (a0, x1, x3, M)) a.1 a.2.1 a.2.2.1 a.2.2.2) F (some (z + 27), 2, nI c, me z D t u) = some (me z D t u') ∧ RQ u' (L ++ gE ρ E k i) := by
  have x2 : ¬ (2 : Int32) < 2 := by decide
  have x2' : (2 : Int32) ≤ 2 := by decide
  have h70 : ∀ (u : mo_S) (K52 : Option Nat → Int32 → Int32 → gk_M → Option gk_M) (c : Nat), ¬ (8 : Int32) ≤ nI c → fn_Mo_filterAll_52_bd K52 (some (z + 27)) 2 (nI c) (me z D t u) = fn_Mo_filterAll_70 K52 (some (z + 27)) 2 (nI c) (me z D t u) := by
    intro u K52 c c8
    unfold fn_Mo_filterAll_52_bd
    rw [mo_gi_33, if_neg c8, Option.bind_some, if_neg x2]
    split <;> rfl
  intro k
  induction k with
  | zero =>
    intro i F c u L hi hF hc hM hU hR hL
    have : i = nf := by omega
    subst this
    refine ⟨u, uv.refl u, ⟨rfl, rfl, rfl⟩, ?_, by simp only [gE, List.append_nil]; exact hR⟩
    obtain ⟨F, rfl⟩ : ∃ F', F = F' + 1 := ⟨F - 1, by omega⟩
    rw [gk_loop_s]
    show fn_Mo_filterAll_52_bd _ (some (z + 27)) 2 (nI c) (me z D t u) = _
    by_cases c8 : (8 : Int32) ≤ nI c
    · unfold fn_Mo_filterAll_52_bd
      rw [if_pos c8]
    · rw [h70 _ _ _ c8]
      have hp := ms_pick (z := z) (D := D) (t := t) (K := 2) hM hn (by omega) hU (nI c) (fun a0 x1 x3 M => gk_loop (α := Option Nat × Int32 × Int32 × gk_M) (fun kk a => fn_Mo_filterAll_52_bd (fun a0 x1 x3 M => kk (a0, x1, x3, M)) a.1 a.2.1 a.2.2.1 a.2.2.2) F (a0, x1, x3, M))
      rw [pick_n hO, if_neg (show ¬ 0 ≤ oI none by show ¬ (0 : Int32) ≤ -1; decide)] at hp
      exact hp
  | succ k ih =>
    intro i F c u L hi hF hc hM hU hR hL
    rcases bool_or (E (ρ i)) with hE | hE
    · have eg : gE ρ E (k + 1) i = gE ρ E k (i + 1) := by simp only [gE, hE, Bool.false_eq_true, if_false]
      rw [eg] at hL ⊢
      exact ih (i + 1) F c u L (by omega) (by omega) (by omega) hM (fun f hf => by rw [UU_f hE]; exact hU f hf) hR hL
    · have eg : gE ρ E (k + 1) i = ρ i :: gE ρ E k (i + 1) := by simp only [gE, hE, if_true]
      rw [eg] at hL ⊢
      simp only [List.length_cons] at hL
      obtain ⟨F, rfl⟩ : ∃ F', F = F' + 1 := ⟨F - 1, by omega⟩
      obtain ⟨u1, q1, a30, a32, a33, a23, aR, arun⟩ := ms_ran (z := z) (D := D) (t := t) hM hn hR (by omega) (hO.1 i (by omega))
      have c8 : ¬ (8 : Int32) ≤ nI c := nI_ge (a := c) (b := 8) (by omega) (by omega)
      have hU1 : ∀ f, f < nf → u1.2.2 23 f = b2 (!UU ρ E (i + 1) f) := fun f hf => by
        rw [a23, UU_t]
        by_cases e : f = ρ i
        · rw [if_pos e, decide_eq_true e.symm, Bool.not_true, Bool.and_false]; rfl
        · rw [if_neg e, decide_eq_false (fun q => e q.symm), Bool.not_false, Bool.and_true]; exact hU f hf
      have hri := hO.1 i (by omega)
      obtain ⟨u', g1, g0, g2, g4⟩ := ih (i + 1) F (c + 1) u1 (L ++ [ρ i]) (by omega) (by omega) (by omega) (hM.uv q1) hU1 aR (by rw [List.length_append, List.length_singleton]; omega)
      refine ⟨u', q1.trans g1, ⟨g0.1.trans a30, g0.2.1.trans a32, g0.2.2.trans a33⟩, ?_, by rw [List.append_assoc] at g4; exact g4⟩
      rw [← g2, gk_loop_s]
      show fn_Mo_filterAll_52_bd _ (some (z + 27)) 2 (nI c) (me z D t u) = _
      rw [h70 _ _ _ c8]
      have hp := ms_pick (z := z) (D := D) (t := t) (K := 2) hM hn (by omega) hU (nI c) (fun a0 x1 x3 M => gk_loop (α := Option Nat × Int32 × Int32 × gk_M) (fun kk a => fn_Mo_filterAll_52_bd (fun a0 x1 x3 M => kk (a0, x1, x3, M)) a.1 a.2.1 a.2.2.1 a.2.2.2) F (a0, x1, x3, M))
      have hx : oI (some (ρ i)) = nI (ρ i) := rfl
      rw [pick_i hO (by omega) hE, hx, if_pos (nI_pos' (show ρ i < 2 ^ 31 by omega)), arun, if_pos (show (2 : Int32) ≤ nI 2 by decide), nI_1] at hp
      exact hp
end
