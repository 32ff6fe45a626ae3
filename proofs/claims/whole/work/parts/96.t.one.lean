def ur (u u' : mo_S) : Prop := (∀ k, k ≠ 34 → k ≠ 40 → k ≠ 42 → k ≠ 47 → k ≠ 50 → u'.1 k = u.1 k) ∧ u'.2.1 = u.2.1 ∧ ∀ k, k ≠ 41 → k ≠ 43 → k ≠ 44 → k ≠ 48 → k ≠ 49 → k ≠ 51 → k ≠ 52 → k ≠ 53 → k ≠ 54 → u'.2.2 k = u.2.2 k
theorem ur.refl (u : mo_S) : ur u u := ⟨fun _ _ _ _ _ _ => rfl, rfl, fun _ _ _ _ _ _ _ _ _ _ => rfl⟩
theorem ur.trans {u u' u'' : mo_S} (h : ur u u') (h' : ur u' u'') : ur u u'' := ⟨fun k a b c d e => (h'.1 k a b c d e).trans (h.1 k a b c d e), h'.2.1.trans h.2.1, fun k a b c d e f g i j => (h'.2.2 k a b c d e f g i j).trans (h.2.2 k a b c d e f g i j)⟩
theorem uq.ur {u u' : mo_S} (h : uq u u') : ur u u' := ⟨fun k _ _ _ d e => h.1 k d e, h.2.1, fun k _ _ _ d e f g _ _ => h.2.2 k d e f g⟩
theorem uf.ur {u u' : mo_S} (h : uf u u') : ur u u' := ⟨fun k _ _ c d e => h.1 k d e c, h.2.1, fun k _ b c d e f g _ _ => h.2.2 k d e f g b c⟩
theorem MM.ur {rn mn ln n : Nat} {P : Nat → Int32} {B : Nat → Nat → Int32} {u u' : mo_S} (h : MM rn mn ln n P B u) (q : ur u u') : MM rn mn ln n P B u' := by
  obtain ⟨h1, h2, h3, h4, h5, h6⟩ := h
  obtain ⟨q1, -, q3⟩ := q
  refine ⟨(q1 4 (by decide) (by decide) (by decide) (by decide) (by decide)).trans h1, (q1 5 (by decide) (by decide) (by decide) (by decide) (by decide)).trans h2, (q1 14 (by decide) (by decide) (by decide) (by decide) (by decide)).trans h3, (q1 29 (by decide) (by decide) (by decide) (by decide) (by decide)).trans h4, fun i hi => ?_, fun k hk => (q3 k (by omega) (by omega) (by omega) (by omega) (by omega) (by omega) (by omega) (by omega) (by omega)).trans (h6 k hk)⟩
  rw [q3 28 (by decide) (by decide) (by decide) (by decide) (by decide) (by decide) (by decide) (by decide) (by decide)]
  exact h5 i hi
def hw (W : Nat → Nat) (b : Option Nat) (r : Nat) : Option Nat := match b with
  | none => some r
  | some x => if W x < W r then some r else some x
section
variable {z : Nat} {D : gk_M} {rn mn ln n : Nat} {P : Nat → Int32} {B : Nat → Nat → Int32} {t : sd_S} {u : mo_S}
theorem mm_match (hM : MM rn mn ln n P B u) (hn : n ≤ 24) {T s : Nat} (hT : T < 26) (hg : tgd B T) (hs : s ≤ n) : ∃ u', uq u u' ∧ fn_Mo_match (some (z + 27)) (nI T) (nI s) (me z D t u) = some (if 0 < tm B T ∧ qc n P (tl B T) s = true then nI (qw n P (tl B T) s).2 else -1, me z D t u') := by
  obtain ⟨e1, e2, e3⟩ := tm_congr hM.2.2.2.2.2 T
  have hg' := tgd_congr hM.2.2.2.2.2 hg
  obtain ⟨u', q1, q2, -⟩ := ms_match (z := z) (D := D) (t := t) (l := tl u.2.2 T) hT hg'.1 hg'.2.1 hg'.2.2.1 rfl hn hM.2.2.2.1 hM.2.2.2.2.1 hs
  rw [e1, e3] at q2
  exact ⟨u', q1, q2⟩
theorem mm_weight (hM : MM rn mn ln n P B u) {T : Nat} (hT : T < 26) (hg : tgd B T) : ∃ u', uq u u' ∧ fn_Mo_weight (some (z + 27)) (nI T) (me z D t u) = some (nI (Wt (tl B T)), me z D t u') := by
  obtain ⟨e1, e2, e3⟩ := tm_congr hM.2.2.2.2.2 T
  obtain ⟨u', q1, q2⟩ := ms_weight (z := z) (D := D) (t := t) hT (tgd_congr hM.2.2.2.2.2 hg)
  rw [e3] at q2
  exact ⟨u', q1, q2⟩
theorem mm_same (hM : MM rn mn ln n P B u) {T T' : Nat} (hT : T < 26) (hT' : T' < 26) (hg : tgd B T) (hg' : tgd B T') : fn_Mo_same (some (z + 27)) (nI T) (nI T') (me z D t u) = some (b2 (decide (tl B T = tl B T')), me z D t u) := by
  obtain ⟨e1, e2, e3⟩ := tm_congr hM.2.2.2.2.2 T
  obtain ⟨e1', e2', e3'⟩ := tm_congr hM.2.2.2.2.2 T'
  have := ms_same (z := z) (D := D) (t := t) hT hT' (tgd_congr hM.2.2.2.2.2 hg) (tgd_congr hM.2.2.2.2.2 hg')
  rwa [e3, e3'] at this
theorem mm_count (hM : MM rn mn ln n P B u) (hn : n ≤ 24) {T s : Nat} {ps : List (Nat × Nat)} (hT : T < 26) (hg : tgd B T) (h0 : 0 < tm B T) (hs : s ≤ n) (hc : qc n P (tl B T) s = true) (h42 : u.1 42 = nI ps.length) (hps : gokM ps (u.2.2 43) (u.2.2 44)) (hlen : ps.length + 4 ≤ 104) : ∃ u' : mo_S, uf u u' ∧ fn_Mo_count (some (z + 27)) (nI T) (nI s) (me z D t u) = some (nI (qw n P (tl B T) s).2, me z D t u') ∧ u'.1 42 = nI (ps ++ (qw n P (tl B T) s).1).length ∧ gokM (ps ++ (qw n P (tl B T) s).1) (u'.2.2 43) (u'.2.2 44) := by
  obtain ⟨e1, e2, e3⟩ := tm_congr hM.2.2.2.2.2 T
  have := ms_count (z := z) (D := D) (t := t) (P := P) hT (tgd_congr hM.2.2.2.2.2 hg) (by rw [e1]; exact h0) hn hM.2.2.2.1 hM.2.2.2.2.1 hs (by rw [e3]; exact hc) h42 hps hlen
  rwa [e3] at this
theorem oI_lt {r : Option Nat} : (oI r < 0) = (r = none) ∨ ∃ e, r = some e ∧ ¬ e < 2 ^ 31 := by
  cases r with
  | none => left; simp [oI]
  | some e =>
    by_cases h : e < 2 ^ 31
    · left
      simp only [oI, reduceCtorEq, eq_iff_iff, iff_false]
      exact nI_pos h
    · right; exact ⟨e, rfl, h⟩
theorem mm_so44 (hM : MM rn mn ln n P B u) (h6 : rn ≤ 6) (hgr : ∀ r, r < rn → tgd B r) {r : Nat} (hr : r < rn) {b : Option Nat} (hb : ∀ x, b = some x → x < rn) : ∃ u', uq u u' ∧ ∀ K, fn_Mo_stageOne_44 K (some (z + 27)) (oI b) (nI r) 1 (me z D t u) = K (some (z + 27)) (oI (hw (fun r => Wt (tl B r)) b r)) (nI (r + 1)) (me z D t u') := by
  cases b with
  | none =>
    refine ⟨u, uq.refl u, fun K => ?_⟩
    have : oI none < 0 := by decide
    simp only [fn_Mo_stageOne_44, if_neg e10, if_pos this, fn_Mo_stageOne_68, fn_Mo_stageOne_70, nI_1]
    rfl
  | some x =>
    have hx := hb x rfl
    obtain ⟨u1, q1, w1⟩ := mm_weight (z := z) (D := D) (t := t) hM (T := r) (by omega) (hgr r hr)
    obtain ⟨u2, q2, w2⟩ := mm_weight (z := z) (D := D) (t := t) (hM.uq q1) (T := x) (by omega) (hgr x hx)
    refine ⟨u2, q1.trans q2, fun K => ?_⟩
    have : ¬ oI (some x) < 0 := nI_pos (by omega)
    have b1 := Wt_le (tl_len (hgr r hr))
    have b2 := Wt_le (tl_len (hgr x hx))
    have w2' : fn_Mo_weight (some (z + 27)) (oI (some x)) (me z D t u1) = some (nI (Wt (tl B x)), me z D t u2) := w2
    show _ = K (some (z + 27)) (oI (if Wt (tl B x) < Wt (tl B r) then some r else some x)) (nI (r + 1)) (me z D t u2)
    simp only [fn_Mo_stageOne_44, if_neg e10, if_neg this, mo_ob, Option.bind_some, w1, w2', fn_Mo_stageOne_68, fn_Mo_stageOne_70, nI_1]
    by_cases c : Wt (tl B x) < Wt (tl B r)
    · rw [if_neg (nI_ge c (by omega)), if_pos c]; rfl
    · rw [if_pos (nI_le (show Wt (tl B r) ≤ Wt (tl B x) by omega) (by omega)), if_neg c]
theorem ms_stageOne (hM : MM rn mn ln n P B u) (h6 : rn ≤ 6) (h12 : mn ≤ 12) (h8 : ln ≤ 8) (hgr : ∀ r, r < rn → tgd B r) (hgm : ∀ m, m < mn → tgd B (6 + m)) (hn : n ≤ 24) (h42 : u.1 42 = 0) : ∃ u', ur u u' ∧ u'.1 40 = u.1 40 ∧ u'.2.2 41 = u.2.2 41 ∧ fn_Mo_stageOne (some (z + 27)) (me z D t u) = some (if (bR mn ln n P B rn).isSome = true then 0 else 8, me z D t u') ∧ (bR mn ln n P B rn = none → u'.1 42 = 0) ∧ ∀ b, bR mn ln n P B rn = some b → u'.1 34 = nI (qw n P (tl B b) 0).2 ∧ (∀ r, r < 6 → u'.2.2 53 r = b2 (decide (r < rn) && S1 rn B b r)) ∧ u'.1 42 = nI (qw n P (tl B b) 0).1.length ∧ gokM (qw n P (tl B b) 0).1 (u'.2.2 43) (u'.2.2 44) := by
  unfold fn_Mo_stageOne fn_Mo_stageOne_4
  obtain ⟨a', w, h1, h2⟩ := lp_to (body := fun (kk : Option Nat × Int32 × Int32 × gk_M → Option (Int32 × gk_M)) a => fn_Mo_stageOne_4_bd (fun a0 x1 x2 M => kk (a0, x1, x2, M)) a.1 a.2.1 a.2.2.1 a.2.2.2) (fun i st => ∃ u', uq u u' ∧ st = (some (z + 27), oI (bR mn ln n P B i), nI i, me z D t u')) rn (fun i st hi hst => by
    obtain ⟨u', q, rfl⟩ := hst
    have hM' := hM.uq q
    obtain ⟨u1, q1, m1⟩ := mm_match (z := z) (D := D) (t := t) hM' hn (T := i) (s := 0) (by omega) (hgr i hi) (by omega)
    rw [nI_0] at m1
    have hM1 := hM'.uq q1
    have hbb : ∀ x, bR mn ln n P B i = some x → x < rn := fun x hx => by have := (hv_ok hx).2; omega
    cases hk : okR mn ln n P B i with
    | false =>
      refine ⟨_, ⟨u1, q.trans q1, rfl⟩, fun kk => ?_⟩
      have hb1 : bR mn ln n P B (i + 1) = bR mn ln n P B i := by
        simp only [bR, hv, hk, Bool.false_eq_true, false_and, if_false]
        cases hv (okR mn ln n P B) (fun r => Wt (tl B r)) i <;> rfl
      by_cases hc : 0 < tm B i ∧ qc n P (tl B i) 0 = true
      · rw [if_pos hc] at m1
        have hle := (qw_le n P (tl B i) 0 (by omega) hc.2).2.1
        have hen := ms_ends (z := z) (D := D) (t := t) (P := P) hn hM1.2.2.2.1 hM1.2.2.2.2.1 hle
        have hdp := ms_has (z := z) (D := D) (t := t) hM1 h12 h8 hgm i
        have hk2 := hk
        unfold okR at hk2
        rw [decide_eq_true hc.1, hc.2, Bool.true_and, Bool.true_and, Bool.or_eq_false_iff] at hk2
        rw [hk2.1] at hen
        rw [hk2.2] at hdp
        simp only [fn_Mo_stageOne_4_bd, mo_gi_4, hM'.1, Option.bind_some, if_neg (nI_ge hi (by omega)), mo_ob, m1, if_neg (nI_pos (show (qw n P (tl B i) 0).2 < 2 ^ 31 by omega)), hen, b2_f, if_true, hdp, fn_Mo_stageOne_43, fn_Mo_stageOne_44, fn_Mo_stageOne_70, hb1, nI_1]
      · rw [if_neg hc] at m1
        have : (-1 : Int32) < 0 := by decide
        simp only [fn_Mo_stageOne_4_bd, mo_gi_4, hM'.1, Option.bind_some, if_neg (nI_ge hi (by omega)), mo_ob, m1, if_pos this, fn_Mo_stageOne_43, fn_Mo_stageOne_44, if_true, fn_Mo_stageOne_70, hb1, nI_1]
    | true =>
      obtain ⟨u2, q2, hK⟩ := mm_so44 (z := z) (D := D) (t := t) hM1 h6 hgr hi hbb
      refine ⟨_, ⟨u2, (q.trans q1).trans q2, rfl⟩, fun kk => ?_⟩
      have hb1 : bR mn ln n P B (i + 1) = hw (fun r => Wt (tl B r)) (bR mn ln n P B i) i := by
        unfold bR
        rw [hv]
        cases hv (okR mn ln n P B) (fun r => Wt (tl B r)) i with
        | none => simp [hk, hw]
        | some x => simp [hk, hw]
      have hk2 := hk
      unfold okR at hk2
      rw [Bool.and_eq_true, Bool.and_eq_true, decide_eq_true_eq] at hk2
      rw [if_pos ⟨hk2.1, hk2.2.1⟩] at m1
      have hle := (qw_le n P (tl B i) 0 (by omega) hk2.2.1).2.1
      have hen := ms_ends (z := z) (D := D) (t := t) (P := P) hn hM1.2.2.2.1 hM1.2.2.2.2.1 hle
      have hdp := ms_has (z := z) (D := D) (t := t) hM1 h12 h8 hgm i
      rw [hb1, ← hK (fun a0 x1 x2 M => kk (a0, x1, x2, M))]
      cases he : en n P (qw n P (tl B i) 0).2 with
      | true =>
        rw [he] at hen
        simp only [fn_Mo_stageOne_4_bd, mo_gi_4, hM'.1, Option.bind_some, if_neg (nI_ge hi (by omega)), mo_ob, m1, if_neg (nI_pos (show (qw n P (tl B i) 0).2 < 2 ^ 31 by omega)), hen, b2_t, if_neg e10, fn_Mo_stageOne_39]
      | false =>
        rw [he] at hen
        have hd : dp mn ln B i = true := by
          have := hk2.2.2
          rw [he, Bool.false_or] at this
          exact this
        rw [hd] at hdp
        simp only [fn_Mo_stageOne_4_bd, mo_gi_4, hM'.1, Option.bind_some, if_neg (nI_ge hi (by omega)), mo_ob, m1, if_neg (nI_pos (show (qw n P (tl B i) 0).2 < 2 ^ 31 by omega)), hen, b2_f, if_true, hdp, b2_t, if_neg e10, fn_Mo_stageOne_39]) rn 0 gk_fuel (some (z + 27), -1, 0, me z D t u) (by omega) (by unfold gk_fuel; omega) ⟨u, uq.refl u, rfl⟩
  obtain ⟨u', q, rfl⟩ := h1
  rw [h2]
  have hM' := hM.uq q
  have h40 : u'.1 40 = u.1 40 := q.1 40 (by decide) (by decide)
  have h41 : u'.2.2 41 = u.2.2 41 := q.2.2 41 (by decide) (by decide) (by decide) (by decide)
  have h42' : u'.1 42 = 0 := (q.1 42 (by decide) (by decide)).trans h42
  cases hb : bR mn ln n P B rn with
  | none =>
    refine ⟨u', q.ur, h40, h41, ?_, fun _ => h42', fun b hb => by cases hb⟩
    have : ¬ 0 ≤ oI none := by decide
    simp only [fn_Mo_stageOne_4_bd, mo_gi_4, hM'.1, Option.bind_some, if_pos (Int32.le_refl _), if_neg this, Option.isSome_none, Bool.false_eq_true, if_false]
  | some b =>
    have hbo := hv_ok hb
    have hk2 := hbo.1
    unfold okR at hk2
    rw [Bool.and_eq_true, Bool.and_eq_true, decide_eq_true_eq] at hk2
    obtain ⟨a'', w', h3, h4⟩ := lp_to (body := fun (kk : Option Nat × Int32 × Int32 × gk_M → Option (Int32 × gk_M)) a => fn_Mo_stageOne_85_bd (fun a0 x1 x2 M => kk (a0, x1, x2, M)) a.1 a.2.1 a.2.2.1 a.2.2.2) (fun i st => ∃ C : Nat → Int32, st = (some (z + 27), nI b, nI i, me z D t (u'.1, u'.2.1, setA u'.2.2 53 C)) ∧ ∀ r, r < i → C r = b2 (decide (r < rn) && S1 rn B b r)) 6 (fun i st hi hst => by
      obtain ⟨C, rfl, hCC⟩ := hst
      refine ⟨_, ⟨upd C i (b2 (decide (i < rn) && S1 rn B b i)), rfl, fun r hr => ?_⟩, fun kk => ?_⟩
      · by_cases e : r = i
        · subst e; rw [pk_us]
        · rw [pk_un e]; exact hCC r (by omega)
      · have hs1 : ∀ b : Bool, gk_is (me z D t (u'.1, u'.2.1, setA u'.2.2 53 C)) 2 .boolean (some (z + 59)) (nI i) (b2 b) = some (me z D t (u'.1, u'.2.1, setA u'.2.2 53 (upd C i (b2 b)))) := fun b => by
          rw [mo_is_53 (by omega)]; simp only [setA_up]; cases b <;> rfl
        have hsT := hs1 true
        have hsF := hs1 false
        rw [b2_t] at hsT
        rw [b2_f] at hsF
        have h6i : ¬ (6 : Int32) ≤ nI i := nI_ge (a := i) (b := 6) hi (by omega)
        by_cases cr : i < rn
        · have e3 : gk_il (me z D t (u'.1, u'.2.1, setA u'.2.2 53 C)) 0 (some (z + 30)) (nI i) = some (nI (tm B i)) := by
            rw [mo_il_3 (by omega)]
            refine congrArg some ?_
            show setA u'.2.2 53 C 3 i = _
            rw [setA_ne _ _ (by decide), hM'.2.2.2.2.2 3 (by decide), (hgr i cr).1]
          have hM2 : MM rn mn ln n P B (u'.1, u'.2.1, setA u'.2.2 53 C) := hM'.ur ⟨fun _ _ _ _ _ _ => rfl, rfl, fun k _ _ _ _ _ _ _ h _ => setA_ne _ _ h⟩
          have hsm := mm_same (z := z) (D := D) (t := t) hM2 (T := i) (T' := b) (by omega) (by omega) (hgr i cr) (hgr b hbo.2)
          have htm := (hgr i cr).2.1
          simp only [fn_Mo_stageOne_85_bd, if_neg h6i, mo_gr_53, Option.bind_some, mo_gi_4, hM'.1, if_neg (nI_ge cr (by omega)), mo_gr_3, e3, mo_ob, hsm, b2_0, fn_Mo_stageOne_126, fn_Mo_stageOne_127, hsT, hsF, nI_1, decide_eq_true cr, Bool.true_and, S1]
          by_cases c0 : 0 < tm B i
          · rw [if_neg (nI_nle c0 (by omega)), decide_eq_true c0, Bool.true_and]
            cases decide (tl B i = tl B b) with
            | true => simp only [Bool.true_eq_false, if_false, b2_t]
            | false => simp only [if_true, b2_f]
          · have : tm B i = 0 := by omega
            rw [this, if_pos (by decide), decide_eq_false (Nat.lt_irrefl 0), Bool.false_and, b2_f]
        · simp only [fn_Mo_stageOne_85_bd, if_neg h6i, mo_gr_53, Option.bind_some, mo_gi_4, hM'.1, if_pos (nI_le (show rn ≤ i by omega) (by omega)), fn_Mo_stageOne_126, fn_Mo_stageOne_127, hsF, nI_1, decide_eq_false cr, Bool.false_and, b2_f]) 6 0 gk_fuel (some (z + 27), nI b, 0, me z D t u') (by omega) (by unfold gk_fuel; omega) ⟨u'.2.2 53, by rw [setA_id]; rfl, fun r hr => absurd hr (by omega)⟩
    obtain ⟨C, rfl, hCC⟩ := h3
    have hur : ur u' (u'.1, u'.2.1, setA u'.2.2 53 C) := ⟨fun _ _ _ _ _ _ => rfl, rfl, fun k _ _ _ _ _ _ _ h _ => setA_ne _ _ h⟩
    obtain ⟨u2, f1, f2, f3, f4⟩ := mm_count (z := z) (D := D) (t := t) (ps := []) (hM'.ur hur) hn (T := b) (s := 0) (by omega) (hgr b hbo.2) hk2.1 (by omega) hk2.2.1 h42' (fun k hk => absurd hk (by simp)) (by simp)
    refine ⟨(upd u2.1 34 (nI (qw n P (tl B b) 0).2), u2.2), ?_, ?_, ?_, ?_, (fun hx => by cases hx), fun b' hb' => ?_⟩
    · exact ((q.ur.trans hur).trans f1.ur).trans ⟨fun k k1 _ _ _ _ => pk_un k1, rfl, fun _ _ _ _ _ _ _ _ _ _ => rfl⟩
    · exact (show upd u2.1 34 (nI (qw n P (tl B b) 0).2) 40 = u2.1 40 from pk_un (by decide)).trans ((f1.1 40 (by decide) (by decide) (by decide)).trans h40)
    · exact (f1.2.2 41 (by decide) (by decide) (by decide) (by decide) (by decide) (by decide)).trans ((show setA u'.2.2 53 C 41 = u'.2.2 41 from setA_ne _ _ (by decide)).trans h41)
    · rw [nI_0] at f2
      simp only [fn_Mo_stageOne_4_bd, mo_gi_4, hM'.1, Option.bind_some, if_pos (Int32.le_refl _), fn_Mo_stageOne_85, Option.isSome_some, if_true]
      rw [show oI (some b) = nI b from rfl, if_pos (nI_pos' (show b < 2 ^ 31 by omega)), h4]
      have : (6 : Int32) ≤ nI 6 := by decide
      simp only [fn_Mo_stageOne_85_bd, if_pos this, mo_ob, Option.bind_some, f2, mo_pf_34]
    · cases hb'
      rw [List.nil_append] at f3 f4
      refine ⟨(show upd u2.1 34 (nI (qw n P (tl B b) 0).2) 34 = _ from pk_us), fun r hr => ?_, (show upd u2.1 34 (nI (qw n P (tl B b) 0).2) 42 = u2.1 42 from pk_un (by decide)).trans f3, f4⟩
      show u2.2.2 53 r = _
      rw [f1.2.2 53 (by decide) (by decide) (by decide) (by decide) (by decide) (by decide)]
      exact (congrFun (setA_self u'.2.2 53 C) r).trans (hCC r hr)
end
