def RM (u : mo_S) (ps : List (Nat × Nat)) (hs : List Int32) : Prop := u.1 42 = nI ps.length ∧ gokM ps (u.2.2 43) (u.2.2 44) ∧ u.1 40 = nI hs.length ∧ ∀ i, i < hs.length → u.2.2 41 i = hs.getD i 0
theorem RM.uq {u u' : mo_S} {ps : List (Nat × Nat)} {hs : List Int32} (h : RM u ps hs) (q : uq u u') : RM u' ps hs := by
  obtain ⟨h1, h2, h3, h4⟩ := h
  obtain ⟨q1, -, q2⟩ := q
  refine ⟨(q1 42 (by decide) (by decide)).trans h1, ?_, (q1 40 (by decide) (by decide)).trans h3, ?_⟩
  · rw [q2 43 (by decide) (by decide) (by decide) (by decide), q2 44 (by decide) (by decide) (by decide) (by decide)]; exact h2
  · rw [q2 41 (by decide) (by decide) (by decide) (by decide)]; exact h4
def cmb (B : Nat → Nat → Int32) (bm bl : Option Nat) : Option Nat := match bl with
  | none => bm.map (fun m => 6 + m)
  | some l => match bm with
    | none => some (18 + l)
    | some m => if Wt (tl B (6 + m)) < Wt (tl B (18 + l)) then some (18 + l) else some (6 + m)
theorem cmb_step (B : Nat → Nat → Int32) (bm bl : Option Nat) (i : Nat) : cmb B bm (hw (fun l => Wt (tl B (18 + l))) bl i) = hw (fun T => Wt (tl B T)) (cmb B bm bl) (18 + i) := by
  cases bl with
  | none =>
    cases bm with
    | none => rfl
    | some m => rfl
  | some l =>
    cases bm with
    | none =>
      simp only [hw, cmb]
      by_cases c : Wt (tl B (18 + l)) < Wt (tl B (18 + i))
      · simp only [c, if_true]
      · simp only [c, if_false]
    | some m =>
      simp only [hw, cmb]
      by_cases c : Wt (tl B (18 + l)) < Wt (tl B (18 + i))
      · simp only [c, if_true]
        by_cases d : Wt (tl B (6 + m)) < Wt (tl B (18 + l))
        · simp only [d, if_true, c, show Wt (tl B (6 + m)) < Wt (tl B (18 + i)) by omega]
        · simp only [d, if_false]
      · simp only [c, if_false]
        by_cases d : Wt (tl B (6 + m)) < Wt (tl B (18 + l))
        · simp only [d, if_true, c, if_false]
        · simp only [d, if_false, show ¬ Wt (tl B (6 + m)) < Wt (tl B (18 + i)) by omega]
section
variable {z : Nat} {D : gk_M} {rn mn ln n : Nat} {P : Nat → Int32} {B : Nat → Nat → Int32} {t : sd_S} {u : mo_S} {S : Nat → Bool}
/-- what the reference's two stages need of the setup -/
def GG (rn mn ln : Nat) (B : Nat → Nat → Int32) : Prop := rn ≤ 6 ∧ mn ≤ 12 ∧ ln ≤ 8 ∧ (∀ r, r < rn → tgd B r) ∧ (∀ m, m < mn → tgd B (6 + m) ∧ B 6 m = nI (ow B m) ∧ ow B m < rn) ∧ ∀ l, l < ln → tgd B (18 + l) ∧ 0 < tm B (18 + l) ∧ (B 15 l = nI (owl B l) ∧ owl B l < rn) ∧ ∃ j, j < rn ∧ B 16 l = nI j
theorem gg_of {P4 P5 P6 : Nat → Option Nat} (h : ST z D rn mn ln P4 P5 P6 B) : GG rn mn ln B := by
  refine ⟨h.1, h.2.1, h.2.2.1, fun r hr => (st_root h hr).1, fun m hm => ⟨?_, ow_of h hm⟩, fun l hl => ?_⟩
  · obtain ⟨-, -, -, -, -, -, -, -, -, -, -, -, g, -⟩ := st_met h hm
    exact g
  · obtain ⟨-, -, -, -, -, -, g1, g2, -, -, g3⟩ := st_loc h hl
    exact ⟨g1, g2, owl_of h hl, g3⟩
theorem gg_T (hG : GG rn mn ln B) {T : Nat} (h : (∃ m, m < mn ∧ T = 6 + m) ∨ ∃ l, l < ln ∧ T = 18 + l) : tgd B T ∧ T < 26 := by
  have h1 := hG.2.1
  have h2 := hG.2.2.1
  rcases h with ⟨m, hm, rfl⟩ | ⟨l, hl, rfl⟩
  · exact ⟨(hG.2.2.2.2.1 m hm).1, by omega⟩
  · exact ⟨(hG.2.2.2.2.2 l hl).1, by omega⟩
theorem nI6 (i : Nat) : (6 : Int32) + nI i = nI (6 + i) := nI_add 6 i
theorem nI18 (i : Nat) : (18 : Int32) + nI i = nI (18 + i) := nI_add 18 i
theorem cmb_in (hG : GG rn mn ln B) {bm bl : Option Nat} (hm : ∀ m, bm = some m → m < mn) (hl : ∀ l, bl = some l → l < ln) {T : Nat} (h : cmb B bm bl = some T) : (∃ m, m < mn ∧ T = 6 + m) ∨ ∃ l, l < ln ∧ T = 18 + l := by
  unfold cmb at h
  cases bl with
  | none =>
    cases bm with
    | none => cases h
    | some m => cases h; exact Or.inl ⟨m, hm m rfl, rfl⟩
  | some l =>
    cases bm with
    | none => cases h; exact Or.inr ⟨l, hl l rfl, rfl⟩
    | some m =>
      simp only at h
      split at h
      · cases h; exact Or.inr ⟨l, hl l rfl, rfl⟩
      · cases h; exact Or.inl ⟨m, hm m rfl, rfl⟩
theorem ms_heaviest (hG : GG rn mn ln B) (hM : MM rn mn ln n P B u) (hn : n ≤ 24) {s : Nat} (hs : s ≤ n) (h34 : u.1 34 = nI s) (h53 : ∀ r, r < rn → u.2.2 53 r = b2 (S r)) : ∃ u', uq u u' ∧ fn_Mo_heaviest (some (z + 27)) (me z D t u) = some (oI (cmb B (bM n P B S s mn) (bL n P B S s ln)), me z D t u') := by
  obtain ⟨h6, h12, h8, hgr, hgm, hgl⟩ := id hG
  unfold fn_Mo_heaviest fn_Mo_heaviest_4
  have hn1 : (-1 : Int32) < 0 := by decide
  obtain ⟨a', w, h1, h2⟩ := lp_to (body := fun (kk : Option Nat × Int32 × Int32 × gk_M → Option (Int32 × gk_M)) a => fn_Mo_heaviest_4_bd (fun a0 x1 x2 M => kk (a0, x1, x2, M)) a.1 a.2.1 a.2.2.1 a.2.2.2) (fun i st => ∃ u', uq u u' ∧ st = (some (z + 27), oI ((bM n P B S s i).map (fun m => 6 + m)), nI i, me z D t u')) mn (fun i st hi hst => by
    obtain ⟨u', q, rfl⟩ := hst
    have hM' := hM.uq q
    obtain ⟨hg, w1, w2⟩ := hgm i hi
    have e6 : gk_il (me z D t u') 0 (some (z + 31)) (nI i) = some (nI (ow B i)) := by rw [mo_il_6 (by omega), hM'.2.2.2.2.2 6 (by decide), w1]
    have e53 : gk_il (me z D t u') 2 (some (z + 59)) (nI (ow B i)) = some (b2 (S (ow B i))) := by rw [mo_il_53 (by omega), q.2.2 53 (by decide) (by decide) (by decide) (by decide), h53 _ w2]
    have e34 : u'.1 34 = nI s := (q.1 34 (by decide) (by decide)).trans h34
    have skip : okM n P B S s i = false → bM n P B S s (i + 1) = bM n P B S s i := fun hk => by
      simp only [bM, hv, hk, Bool.false_eq_true, false_and, if_false]
      cases hv (okM n P B S s) (fun m => Wt (tl B (6 + m))) i <;> rfl
    rcases bool_or (S (ow B i)) with hSo | hSo
    · have hk : okM n P B S s i = false := by unfold okM; rw [hSo, Bool.and_false, Bool.false_and]
      refine ⟨_, ⟨u', q, rfl⟩, fun kk => ?_⟩
      simp only [fn_Mo_heaviest_4_bd, mo_gi_5, hM'.2.1, Option.bind_some, if_neg (nI_ge hi (by omega)), mo_gr_53, mo_gr_6, e6, e53, hSo, b2_f, if_true, fn_Mo_heaviest_42, if_pos hn1, fn_Mo_heaviest_80, skip hk, nI_1]
    · obtain ⟨u1, q1, m1⟩ := mm_match (z := z) (D := D) (t := t) hM' hn (T := 6 + i) (s := s) (by omega) hg hs
      have hM1 := hM'.uq q1
      by_cases hc : 0 < tm B (6 + i) ∧ qc n P (tl B (6 + i)) s = true
      · rw [if_pos hc] at m1
        have hle := (qw_le n P (tl B (6 + i)) s hs hc.2).2.1
        have hen := ms_ends (z := z) (D := D) (t := t) (P := P) hn hM1.2.2.2.1 hM1.2.2.2.2.1 hle
        have hok : okM n P B S s i = en n P (qw n P (tl B (6 + i)) s).2 := by unfold okM; rw [decide_eq_true hc.1, hSo, hc.2, Bool.true_and, Bool.true_and, Bool.true_and]
        rcases bool_or (en n P (qw n P (tl B (6 + i)) s).2) with he | he
        · rw [he] at hok hen
          refine ⟨_, ⟨u1, q.trans q1, rfl⟩, fun kk => ?_⟩
          simp only [fn_Mo_heaviest_4_bd, mo_gi_5, hM'.2.1, Option.bind_some, if_neg (nI_ge hi (by omega)), mo_gr_53, mo_gr_6, e6, e53, hSo, b2_t, if_neg e10, mo_gi_34, e34, mo_ob, nI6, m1, fn_Mo_heaviest_42, if_neg (nI_pos (show (qw n P (tl B (6 + i)) s).2 < 2 ^ 31 by omega)), hen, b2_f, if_true, fn_Mo_heaviest_80, skip hok, nI_1]
        · rw [he] at hok hen
          cases hb : bM n P B S s i with
          | none =>
            have hb1 : bM n P B S s (i + 1) = some i := by
              simp only [bM] at hb
              simp only [bM, hv, hb, hok, if_true]
            refine ⟨_, ⟨u1, q.trans q1, rfl⟩, fun kk => ?_⟩
            have hx : oI (Option.map (fun m => 6 + m) none) < 0 := by decide
            simp only [fn_Mo_heaviest_4_bd, mo_gi_5, hM'.2.1, Option.bind_some, if_neg (nI_ge hi (by omega)), mo_gr_53, mo_gr_6, e6, e53, hSo, b2_t, if_neg e10, mo_gi_34, e34, mo_ob, nI6, m1, fn_Mo_heaviest_42, if_neg (nI_pos (show (qw n P (tl B (6 + i)) s).2 < 2 ^ 31 by omega)), hen, if_pos hx, fn_Mo_heaviest_75, fn_Mo_heaviest_80, hb1, nI_1]
            rfl
          | some b =>
            have hbo := hv_ok hb
            obtain ⟨u2, q2, v1⟩ := mm_weight (z := z) (D := D) (t := t) hM1 (T := 6 + i) (by omega) hg
            obtain ⟨u3, q3, v2⟩ := mm_weight (z := z) (D := D) (t := t) (hM1.uq q2) (T := 6 + b) (by omega) (hgm b (by omega)).1
            have hb1 : bM n P B S s (i + 1) = if Wt (tl B (6 + b)) < Wt (tl B (6 + i)) then some i else some b := by
              simp only [bM] at hb
              simp only [bM, hv, hb, hok, true_and]
            refine ⟨_, ⟨u3, ((q.trans q1).trans q2).trans q3, rfl⟩, fun kk => ?_⟩
            have hx : oI (Option.map (fun m => 6 + m) (some b)) = nI (6 + b) := rfl
            have b1 := Wt_le (tl_len hg)
            have b2 := Wt_le (tl_len (hgm b (by omega)).1)
            simp only [fn_Mo_heaviest_4_bd, mo_gi_5, hM'.2.1, Option.bind_some, if_neg (nI_ge hi (by omega)), mo_gr_53, mo_gr_6, e6, e53, hSo, b2_t, if_neg e10, mo_gi_34, e34, mo_ob, nI6, m1, fn_Mo_heaviest_42, if_neg (nI_pos (show (qw n P (tl B (6 + i)) s).2 < 2 ^ 31 by omega)), hen, hx, if_neg (nI_pos (show 6 + b < 2 ^ 31 by omega)), v1, v2, fn_Mo_heaviest_75, fn_Mo_heaviest_80, hb1, nI_1]
            by_cases c : Wt (tl B (6 + b)) < Wt (tl B (6 + i))
            · rw [if_neg (nI_ge c (by omega)), if_pos c]; rfl
            · rw [if_pos (nI_le (show Wt (tl B (6 + i)) ≤ Wt (tl B (6 + b)) by omega) (by omega)), if_neg c]; rfl
      · rw [if_neg hc] at m1
        have hk : okM n P B S s i = false := by
          unfold okM
          by_cases c0 : 0 < tm B (6 + i)
          · have : qc n P (tl B (6 + i)) s = false := by
              rcases bool_or (qc n P (tl B (6 + i)) s) with hq | hq
              · exact hq
              · exact absurd ⟨c0, hq⟩ hc
            rw [this, Bool.false_and, Bool.and_false]
          · rw [decide_eq_false c0, Bool.false_and, Bool.false_and]
        refine ⟨_, ⟨u1, q.trans q1, rfl⟩, fun kk => ?_⟩
        simp only [fn_Mo_heaviest_4_bd, mo_gi_5, hM'.2.1, Option.bind_some, if_neg (nI_ge hi (by omega)), mo_gr_53, mo_gr_6, e6, e53, hSo, b2_t, if_neg e10, mo_gi_34, e34, mo_ob, nI6, m1, fn_Mo_heaviest_42, if_pos hn1, fn_Mo_heaviest_80, skip hk, nI_1]) mn 0 gk_fuel (some (z + 27), -1, 0, me z D t u) (by omega) (by unfold gk_fuel; omega) ⟨u, uq.refl u, rfl⟩
  obtain ⟨u', q, rfl⟩ := h1
  rw [h2]
  have hM' := hM.uq q
  simp only [fn_Mo_heaviest_4_bd, mo_gi_5, hM'.2.1, Option.bind_some, if_pos (Int32.le_refl _), fn_Mo_heaviest_88]
  have hbm : ∀ m, bM n P B S s mn = some m → m < mn := fun m hm => (hv_ok hm).2
  obtain ⟨a', w, h1, h2⟩ := lp_to (body := fun (kk : Option Nat × Int32 × Int32 × gk_M → Option (Int32 × gk_M)) a => fn_Mo_heaviest_88_bd (fun a0 x1 x2 M => kk (a0, x1, x2, M)) a.1 a.2.1 a.2.2.1 a.2.2.2) (fun i st => ∃ u', uq u u' ∧ st = (some (z + 27), oI (cmb B (bM n P B S s mn) (bL n P B S s i)), nI i, me z D t u')) ln (fun i st hi hst => by
    obtain ⟨u', q, rfl⟩ := hst
    have hM' := hM.uq q
    obtain ⟨hg, h0, ⟨w1, w2⟩, -⟩ := hgl i hi
    have e15 : gk_il (me z D t u') 0 (some (z + 39)) (nI i) = some (nI (owl B i)) := by rw [mo_il_15 (by omega), hM'.2.2.2.2.2 15 (by decide), w1]
    have e53 : gk_il (me z D t u') 2 (some (z + 59)) (nI (owl B i)) = some (b2 (S (owl B i))) := by rw [mo_il_53 (by omega), q.2.2 53 (by decide) (by decide) (by decide) (by decide), h53 _ w2]
    have e34 : u'.1 34 = nI s := (q.1 34 (by decide) (by decide)).trans h34
    have skip : okL n P B S s i = false → bL n P B S s (i + 1) = bL n P B S s i := fun hk => by
      simp only [bL, hv, hk, Bool.false_eq_true, false_and, if_false]
      cases hv (okL n P B S s) (fun m => Wt (tl B (18 + m))) i <;> rfl
    have hbl : ∀ l, bL n P B S s i = some l → l < ln := fun l hl => by have := (hv_ok hl).2; omega
    rcases bool_or (S (owl B i)) with hSo | hSo
    · have hk : okL n P B S s i = false := by unfold okL; rw [hSo, Bool.false_and]
      refine ⟨_, ⟨u', q, rfl⟩, fun kk => ?_⟩
      simp only [fn_Mo_heaviest_88_bd, mo_gi_14, hM'.2.2.1, Option.bind_some, if_neg (nI_ge hi (by omega)), mo_gr_53, mo_gr_15, e15, e53, hSo, b2_f, if_true, fn_Mo_heaviest_126, if_pos hn1, fn_Mo_heaviest_156, skip hk, nI_1]
    · obtain ⟨u1, q1, m1⟩ := mm_match (z := z) (D := D) (t := t) hM' hn (T := 18 + i) (s := s) (by omega) hg hs
      have hM1 := hM'.uq q1
      rcases bool_or (qc n P (tl B (18 + i)) s) with hc | hc
      · rw [if_neg (fun h => by rw [hc] at h; cases h.2)] at m1
        have hk : okL n P B S s i = false := by unfold okL; rw [hc, Bool.and_false]
        refine ⟨_, ⟨u1, q.trans q1, rfl⟩, fun kk => ?_⟩
        simp only [fn_Mo_heaviest_88_bd, mo_gi_14, hM'.2.2.1, Option.bind_some, if_neg (nI_ge hi (by omega)), mo_gr_53, mo_gr_15, e15, e53, hSo, b2_t, if_neg e10, mo_gi_34, e34, mo_ob, nI18, m1, fn_Mo_heaviest_126, if_pos hn1, fn_Mo_heaviest_156, skip hk, nI_1]
      · rw [if_pos ⟨h0, hc⟩] at m1
        have hle := (qw_le n P (tl B (18 + i)) s hs hc).2.1
        have hok : okL n P B S s i = true := by unfold okL; rw [hc, hSo]; rfl
        have hb1 : cmb B (bM n P B S s mn) (bL n P B S s (i + 1)) = hw (fun T => Wt (tl B T)) (cmb B (bM n P B S s mn) (bL n P B S s i)) (18 + i) := by
          rw [← cmb_step]
          congr 1
          unfold bL
          rw [hv]
          cases hv (okL n P B S s) (fun l => Wt (tl B (18 + l))) i with
          | none => simp [hok, hw]
          | some x => simp [hok, hw]
        cases hb : cmb B (bM n P B S s mn) (bL n P B S s i) with
        | none =>
          refine ⟨_, ⟨u1, q.trans q1, rfl⟩, fun kk => ?_⟩
          rw [hb] at hb1
          have hx : oI none < 0 := by decide
          simp only [fn_Mo_heaviest_88_bd, mo_gi_14, hM'.2.2.1, Option.bind_some, if_neg (nI_ge hi (by omega)), mo_gr_53, mo_gr_15, e15, e53, hSo, b2_t, if_neg e10, mo_gi_34, e34, mo_ob, nI18, m1, fn_Mo_heaviest_126, if_neg (nI_pos (show (qw n P (tl B (18 + i)) s).2 < 2 ^ 31 by omega)), if_pos hx, fn_Mo_heaviest_151, fn_Mo_heaviest_156, hb1, nI_1]
          rfl
        | some T =>
          obtain ⟨hgT, hT26⟩ := gg_T hG (cmb_in hG hbm hbl hb)
          obtain ⟨u2, q2, v1⟩ := mm_weight (z := z) (D := D) (t := t) hM1 (T := 18 + i) (by omega) hg
          obtain ⟨u3, q3, v2⟩ := mm_weight (z := z) (D := D) (t := t) (hM1.uq q2) (T := T) hT26 hgT
          refine ⟨_, ⟨u3, ((q.trans q1).trans q2).trans q3, rfl⟩, fun kk => ?_⟩
          rw [hb] at hb1
          have hx : oI (some T) = nI T := rfl
          have b1 := Wt_le (tl_len hg)
          have b2 := Wt_le (tl_len hgT)
          simp only [fn_Mo_heaviest_88_bd, mo_gi_14, hM'.2.2.1, Option.bind_some, if_neg (nI_ge hi (by omega)), mo_gr_53, mo_gr_15, e15, e53, hSo, b2_t, if_neg e10, mo_gi_34, e34, mo_ob, nI18, m1, fn_Mo_heaviest_126, if_neg (nI_pos (show (qw n P (tl B (18 + i)) s).2 < 2 ^ 31 by omega)), hx, if_neg (nI_pos (show T < 2 ^ 31 by omega)), v1, v2, fn_Mo_heaviest_151, fn_Mo_heaviest_156, hb1, hw, nI_1]
          by_cases c : Wt (tl B T) < Wt (tl B (18 + i))
          · rw [if_neg (nI_ge c (by omega)), if_pos c]; rfl
          · rw [if_pos (nI_le (show Wt (tl B (18 + i)) ≤ Wt (tl B T) by omega) (by omega)), if_neg c]; rfl) ln 0 gk_fuel (some (z + 27), oI ((bM n P B S s mn).map (fun m => 6 + m)), 0, me z D t u') (by omega) (by unfold gk_fuel; omega) ⟨u', q, rfl⟩
  obtain ⟨u2, q2, rfl⟩ := h1
  rw [h2]
  refine ⟨u2, q2, ?_⟩
  simp only [fn_Mo_heaviest_88_bd, mo_gi_14, (hM.uq q2).2.2.1, Option.bind_some, if_pos (Int32.le_refl _)]
end
