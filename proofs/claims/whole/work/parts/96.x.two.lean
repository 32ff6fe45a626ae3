theorem anyb_cut {q : Nat → Bool} {m k : Nat} (h : m ≤ k) : anyb (fun i => decide (i < m) && q i) k = anyb q m := by
  rcases bool_or (anyb q m) with h1 | h1
  · rw [h1, anyb_f]
    rw [anyb_f] at h1
    intro i hi
    by_cases c : i < m
    · rw [h1 i c, Bool.and_false]
    · rw [decide_eq_false c, Bool.false_and]
  · rw [h1]
    obtain ⟨i, hi, hq⟩ := anyb_t.mp h1
    exact anyb_t.mpr ⟨i, by omega, by rw [decide_eq_true hi, hq]; rfl⟩
theorem tl_nil {B : Nat → Nat → Int32} {T : Nat} (h : tm B T = 0) : tl B T = [] := by
  unfold tl; rw [h]; exact pk_nil (by omega)
def tw_end (k2 : Option Nat → Int32 → gk_M → Option (Int32 × gk_M)) (a0 : Option Nat) (x1 : Int32) (M : gk_M) : Option (Int32 × gk_M) := (gk_ob M 12 a0).bind fun _ => (fn_Mo_heaviest a0 M).bind fun w106 => if 0 ≤ w106.1 then (if (18 : Int32) ≤ w106.1 then ((gk_gi w106.2 12 34 a0).bind fun v200 => (gk_ob w106.2 12 a0).bind fun _ => (fn_Mo_count a0 w106.1 v200 w106.2).bind fun w203 => (gk_pf w203.2 12 34 a0 (.int w203.1)).bind fun M206 => (gk_gr M206 12 16 a0).bind fun v210 => (gk_il M206 0 v210 (w106.1 - (18 : Int32))).bind fun v217 => (gk_gr M206 12 41 a0).bind fun v221 => (gk_gi M206 12 40 a0).bind fun v225 => (gk_is M206 0 .int v221 v225 v217).bind fun M230 => (gk_gi M230 12 40 a0).bind fun v233 => (gk_pf M230 12 40 a0 (.int (v233 + (1 : Int32)))).bind fun M238 => fn_Mo_stageTwo_244 k2 a0 x1 v217 0 M238) else (fn_Mo_stageTwo_126  a0 w106.1 0 w106.2)) else (some ((8 : Int32), w106.2))
theorem twz_12 (K : Option Nat → Int32 → gk_M → Option (Int32 × gk_M)) (kk : Option Nat → Int32 → Int32 → Int32 → gk_M → Option (Int32 × gk_M)) (a0 : Option Nat) (x1 x2 : Int32) (M : gk_M) : fn_Mo_stageTwo_12_bd K kk a0 x1 x2 (nI 12) M = if x2 = 0 then tw_end K a0 x1 M else some (0, M) := by
  unfold fn_Mo_stageTwo_12_bd tw_end
  rw [if_pos (show (12 : Int32) ≤ nI 12 by decide)]
theorem twz_2 (K : Option Nat → Int32 → gk_M → Option (Int32 × gk_M)) (a0 : Option Nat) {x1 : Int32} (h : ¬ (30 : Int32) ≤ x1) (M : gk_M) : fn_Mo_stageTwo_2_bd K a0 x1 M = fn_Mo_stageTwo_12 K a0 x1 0 0 M := by
  unfold fn_Mo_stageTwo_2_bd
  rw [if_neg h]
section
variable {z : Nat} {D : gk_M} {rn mn ln n : Nat} {P : Nat → Int32} {B : Nat → Nat → Int32} {t : sd_S} {S : Nat → Bool}
theorem ur53 (u : mo_S) (C : Nat → Int32) : ur u (u.1, u.2.1, setA u.2.2 53 C) := ⟨fun _ _ _ _ _ _ => rfl, rfl, fun k _ _ _ _ _ _ _ h _ => setA_ne _ _ h⟩
theorem ur54 (u : mo_S) (C : Nat → Int32) : ur u (u.1, u.2.1, setA u.2.2 54 C) := ⟨fun _ _ _ _ _ _ => rfl, rfl, fun k _ _ _ _ _ _ _ _ h => setA_ne _ _ h⟩
theorem ms_two (hG : GG rn mn ln B) (hn : n ≤ 24) : ∀ (f k F s : Nat) (S : Nat → Bool) (ps : List (Nat × Nat)) (hs : List Int32) (u : mo_S), MM rn mn ln n P B u → n - s < f → k + (n - s) ≤ 24 → f < F → s ≤ n → u.1 34 = nI s → (∀ r, r < rn → u.2.2 53 r = b2 (S r)) → RM u ps hs → ps.length + 4 * (n - s) + 4 ≤ 104 → hs.length + (n - s) ≤ 24 → ∃ u', ur u u' ∧ gk_loop (α := Option Nat × Int32 × gk_M) (fun kk a => fn_Mo_stageTwo_2_bd (fun a0 x1 M => kk (a0, x1, M)) a.1 a.2.1 a.2.2) F (some (z + 27), nI k, me z D t u) = some (if (st2 mn ln n P B f s S ps hs).1.isSome = true then 0 else 8, me z D t u') ∧ RM u' (st2 mn ln n P B f s S ps hs).2.1 (st2 mn ln n P B f s S ps hs).2.2 ∧ ∀ C, (st2 mn ln n P B f s S ps hs).1 = some C → ∀ m, m < mn → u'.2.2 54 m = b2 (C m) := by
  obtain ⟨h6, h12, h8, hgr, hgm, hgl⟩ := id hG
  intro f
  induction f with
  | zero => intro k F s S ps hs u _ h1; omega
  | succ f ih =>
    intro k F s S ps hs u hM hf hk hF hsn h34 h53 hR hpl hhl
    obtain ⟨F, rfl⟩ : ∃ F', F = F' + 1 := ⟨F - 1, by omega⟩
    have hk30 : ¬ (30 : Int32) ≤ nI k := nI_ge (a := k) (b := 30) (by omega) (by omega)
    -- the bare ones
    obtain ⟨b', w, hb', hw'⟩ := lp_toK (body := fun (K : Option Nat → Int32 → gk_M → Option (Int32 × gk_M)) (kk : Option Nat × Int32 × Int32 × Int32 × gk_M → Option (Int32 × gk_M)) a => fn_Mo_stageTwo_12_bd K (fun a0 x1 x2 x3 M => kk (a0, x1, x2, x3, M)) a.1 a.2.1 a.2.2.1 a.2.2.2.1 a.2.2.2.2) (fun i st => ∃ Cd : Nat → Int32, st = (some (z + 27), nI k, b2 (anyb (fun m => decide (m < mn) && br n P B S s m) i), nI i, me z D t (u.1, u.2.1, setA u.2.2 54 Cd)) ∧ ∀ m, m < i → Cd m = b2 (decide (m < mn) && br n P B S s m)) 12 (fun i st hi hst => by
      obtain ⟨Cd, rfl, hCd⟩ := hst
      refine ⟨_, ⟨upd Cd i (b2 (decide (i < mn) && br n P B S s i)), rfl, fun m hm => ?_⟩, fun K kk => ?_⟩
      · by_cases e : m = i
        · subst e; rw [pk_us]
        · rw [pk_un e]; exact hCd m (by omega)
      · have hs1 : ∀ b : Bool, gk_is (me z D t (u.1, u.2.1, setA u.2.2 54 Cd)) 2 .boolean (some (z + 60)) (nI i) (b2 b) = some (me z D t (u.1, u.2.1, setA u.2.2 54 (upd Cd i (b2 b)))) := fun b => by
          rw [mo_is_54 (by omega)]; simp only [setA_up]; cases b <;> rfl
        have h12i : ¬ (12 : Int32) ≤ nI i := nI_ge (a := i) (b := 12) hi (by omega)
        have hM2 := hM.ur (ur54 u Cd)
        -- what the row does with the value
        have h73 : ∀ b : Bool, fn_Mo_stageTwo_73 K (fun a0 x1 x2 x3 M => kk (a0, x1, x2, x3, M)) (some (z + 27)) (nI k) (b2 (anyb (fun m => decide (m < mn) && br n P B S s m) i)) (nI i) (some (z + 60)) (nI i) (b2 b) (me z D t (u.1, u.2.1, setA u.2.2 54 Cd)) = kk (some (z + 27), nI k, b2 (anyb (fun m => decide (m < mn) && br n P B S s m) i || b), nI (i + 1), me z D t (u.1, u.2.1, setA u.2.2 54 (upd Cd i (b2 b)))) := fun b => by
          have erd : gk_il (me z D t (u.1, u.2.1, setA u.2.2 54 (upd Cd i (b2 b)))) 2 (some (z + 60)) (nI i) = some (b2 b) := by
            rw [mo_il_54 (by omega)]
            simp only [setA_self, pk_us]
          simp only [fn_Mo_stageTwo_73, hs1, Option.bind_some, b2_0, mo_gr_54, erd, fn_Mo_stageTwo_92, fn_Mo_stageTwo_87, nI_1]
          cases b <;> cases anyb (fun m => decide (m < mn) && br n P B S s m) i <;> rfl
        have h73T := h73 true
        have h73F := h73 false
        rw [b2_t] at h73T
        rw [b2_f] at h73F
        simp only [anyb]
        by_cases cm : i < mn
        · obtain ⟨hg, w1, w2⟩ := hgm i cm
          have e6 : gk_il (me z D t (u.1, u.2.1, setA u.2.2 54 Cd)) 0 (some (z + 31)) (nI i) = some (nI (ow B i)) := by rw [mo_il_6 (by omega), hM2.2.2.2.2.2 6 (by decide), w1]
          have e53 : gk_il (me z D t (u.1, u.2.1, setA u.2.2 54 Cd)) 2 (some (z + 59)) (nI (ow B i)) = some (b2 (S (ow B i))) := by
            rw [mo_il_53 (by omega)]
            exact congrArg some ((congrFun (setA_ne (i := 54) (a := 53) u.2.2 Cd (by decide)) _).trans (h53 _ w2))
          have e3 : gk_il (me z D t (u.1, u.2.1, setA u.2.2 54 Cd)) 0 (some (z + 30)) (nI (6 + i)) = some (nI (tm B (6 + i))) := by rw [mo_il_3 (by omega), hM2.2.2.2.2.2 3 (by decide), hg.1]
          have hen := ms_ends (z := z) (D := D) (t := t) (P := P) hn hM2.2.2.2.1 hM2.2.2.2.2.1 hsn
          have htm := hg.2.1
          have e34 : (u.1, u.2.1, setA u.2.2 54 Cd).1 34 = nI s := h34
          rw [decide_eq_true cm, Bool.true_and]
          simp only [fn_Mo_stageTwo_12_bd, if_neg h12i, mo_gr_54, Option.bind_some, mo_gi_5, hM.2.1, if_neg (nI_ge cm (by omega)), mo_gr_53, mo_gr_6, e6, e53, b2_0, mo_gr_3, nI6, e3, mo_gi_34, h34, mo_ob, hen, fn_Mo_stageTwo_72, h73T, h73F]
          unfold br br0
          rcases bool_or (S (ow B i)) with hSo | hSo
          · simp only [hSo, if_true, Bool.false_and, b2_f]
          · simp only [hSo, Bool.true_eq_false, if_false, Bool.true_and]
            by_cases c0 : tm B (6 + i) = 0
            · rw [c0, if_pos nI_0, decide_eq_true rfl, Bool.true_and]
              rcases bool_or (en n P s) with he | he
              · simp only [he, if_true, b2_f]
              · simp only [he, Bool.true_eq_false, if_false, b2_t]
            · rw [if_neg (nI_ne0 (by omega) (by omega)), decide_eq_false c0, Bool.false_and, b2_f]
        · rw [decide_eq_false cm, Bool.false_and]
          simp only [fn_Mo_stageTwo_12_bd, if_neg h12i, mo_gr_54, Option.bind_some, mo_gi_5, hM.2.1, if_pos (nI_le (show mn ≤ i by omega) (by omega)), fn_Mo_stageTwo_72, h73F, b2_f]) 12 0 gk_fuel (some (z + 27), nI k, 0, 0, me z D t u) (by omega) (by unfold gk_fuel; omega) ⟨u.2.2 54, by rw [setA_id]; rfl, fun m hm => absurd hm (by omega)⟩
    obtain ⟨Cd, rfl, hCd⟩ := hb'
    have hMd := hM.ur (ur54 u Cd)
    have h12' : (12 : Int32) ≤ nI 12 := by decide
    rw [gk_loop_s]
    show ∃ u', ur u u' ∧ fn_Mo_stageTwo_2_bd _ (some (z + 27)) (nI k) (me z D t u) = _ ∧ _
    rw [twz_2 _ _ hk30]
    unfold fn_Mo_stageTwo_12
    rw [hw']
    rw [anyb_cut h12]
    simp only [twz_12, b2_0]
    rcases bool_or (anyb (br n P B S s) mn) with ha | ha
    · simp only [ha, if_true, tw_end, mo_ob, Option.bind_some]
      have h53d : ∀ r, r < rn → (u.1, u.2.1, setA u.2.2 54 Cd).2.2 53 r = b2 (S r) := fun r hr => (congrFun (setA_ne (i := 54) (a := 53) u.2.2 Cd (by decide)) _).trans (h53 _ hr)
      have hRd : RM (u.1, u.2.1, setA u.2.2 54 Cd) ps hs := hR
      obtain ⟨u1, q1, e1⟩ := ms_heaviest (z := z) (D := D) (t := t) hG hMd hn hsn h34 h53d
      have hM1 := hMd.uq q1
      have hR1 := hRd.uq q1
      have h341 : u1.1 34 = nI s := (q1.1 34 (by decide) (by decide)).trans h34
      have h531 : ∀ r, r < rn → u1.2.2 53 r = b2 (S r) := fun r hr => by rw [q1.2.2 53 (by decide) (by decide) (by decide) (by decide)]; exact h53d r hr
      have ur1 : ur u u1 := (ur54 u Cd).trans q1.ur
      simp only [e1, Option.bind_some, st2, ha, Bool.false_eq_true, if_false]
      cases hu : useL B (bM n P B S s mn) (bL n P B S s ln) with
      | some l =>
        have hbl := useL_l hu
        have hbo := hv_ok hbl
        have hok := hbo.1
        unfold okL at hok
        rw [Bool.and_eq_true] at hok
        obtain ⟨hg, g0, -, ⟨j, hj, hB⟩⟩ := hgl l hbo.2
        obtain ⟨hg4, l', hl'⟩ := hg.2.2.2.2 g0
        have hcmb : cmb B (bM n P B S s mn) (bL n P B S s ln) = some (18 + l) := by
          rw [hbl] at hu ⊢
          unfold useL at hu
          unfold cmb
          cases hbm : bM n P B S s mn with
          | none => rfl
          | some m =>
            rw [hbm] at hu
            simp only at hu ⊢
            split at hu
            · rename_i c; rw [if_pos c]
            · cases hu
        obtain ⟨u2, f1, f2, f3, f4⟩ := mm_count (z := z) (D := D) (t := t) (ps := ps) hM1 hn (T := 18 + l) (s := s) (by omega) hg g0 hsn hok.2 hR1.1 hR1.2.1 (by omega)
        have hqw := qw_le n P (tl B (18 + l)) s hsn hok.2
        have hlt : s < (qw n P (tl B (18 + l)) s).2 := by
          have hh := hok.2
          rw [hl'] at hh ⊢
          exact qw_47 hsn hh
        have hglen : (qw n P (tl B (18 + l)) s).1.length ≤ 4 := by rw [qw_len]; exact hg4
        have hM2 := hM1.ur f1.ur
        have h402 : u2.1 40 = nI hs.length := (f1.1 40 (by decide) (by decide) (by decide)).trans hR1.2.2.1
        have h412 : ∀ i, i < hs.length → u2.2.2 41 i = hs.getD i 0 := by
          rw [f1.2.2 41 (by decide) (by decide) (by decide) (by decide) (by decide) (by decide)]
          exact hR1.2.2.2
        -- after the hop
        generalize hu3 : ((upd (upd u2.1 34 (nI (qw n P (tl B (18 + l)) s).2)) 40 (nI (hs.length + 1)), u2.2.1, up2 u2.2.2 41 hs.length (B 16 l)) : mo_S) = u3
        have ur3 : ur u2 u3 := by
          rw [← hu3]
          exact ⟨fun k k1 k2 _ _ _ => (show upd (upd u2.1 34 (nI (qw n P (tl B (18 + l)) s).2)) 40 (nI (hs.length + 1)) k = u2.1 k from (pk_un k2).trans (pk_un k1)), rfl, fun k k1 _ _ _ _ _ _ _ _ => up2_ne _ _ _ k1⟩
        obtain ⟨c', w2, hc', hw2⟩ := lp_toK (body := fun (K : Option Nat → Int32 → gk_M → Option (Int32 × gk_M)) (kk : Option Nat × Int32 × Int32 × Int32 × gk_M → Option (Int32 × gk_M)) a => fn_Mo_stageTwo_244_bd K (fun a0 x1 x4 x5 M => kk (a0, x1, x4, x5, M)) a.1 a.2.1 a.2.2.1 a.2.2.2.1 a.2.2.2.2) (fun i st => ∃ C : Nat → Int32, st = (some (z + 27), nI k, B 16 l, nI i, me z D t (u3.1, u3.2.1, setA u3.2.2 53 C)) ∧ ∀ r, r < i → C r = b2 (decide (nI r = B 16 l))) 6 (fun i st hi hst => by
          obtain ⟨C, rfl, hC⟩ := hst
          refine ⟨_, ⟨upd C i (b2 (decide (nI i = B 16 l))), rfl, fun r hr => ?_⟩, fun K kk => ?_⟩
          · by_cases e : r = i
            · subst e; rw [pk_us]
            · rw [pk_un e]; exact hC r (by omega)
          · have hs1 : ∀ b : Bool, gk_is (me z D t (u3.1, u3.2.1, setA u3.2.2 53 C)) 2 .boolean (some (z + 59)) (nI i) (b2 b) = some (me z D t (u3.1, u3.2.1, setA u3.2.2 53 (upd C i (b2 b)))) := fun b => by
              rw [mo_is_53 (by omega)]; simp only [setA_up]; cases b <;> rfl
            have hsT := hs1 true
            have hsF := hs1 false
            rw [b2_t] at hsT
            rw [b2_f] at hsF
            have h6i : ¬ (6 : Int32) ≤ nI i := nI_ge (a := i) (b := 6) hi (by omega)
            simp only [fn_Mo_stageTwo_244_bd, if_neg h6i, mo_gr_53, Option.bind_some, fn_Mo_stageTwo_269, hsT, hsF, nI_1]
            by_cases c : nI i = B 16 l
            · rw [if_pos c, decide_eq_true c, b2_t]
            · rw [if_neg c, decide_eq_false c, b2_f]) 6 0 gk_fuel (some (z + 27), nI k, B 16 l, 0, me z D t u3) (by omega) (by unfold gk_fuel; omega) ⟨u3.2.2 53, by rw [setA_id]; rfl, fun r hr => absurd hr (by omega)⟩
        obtain ⟨C, rfl, hC⟩ := hc'
        have hM4 := (hM2.ur ur3).ur (ur53 u3 C)
        have h34' : u3.1 34 = nI (qw n P (tl B (18 + l)) s).2 := by
          rw [← hu3]
          exact (show upd (upd u2.1 34 (nI (qw n P (tl B (18 + l)) s).2)) 40 (nI (hs.length + 1)) 34 = _ from (pk_un (by decide)).trans pk_us)
        have hR4 : RM (u3.1, u3.2.1, setA u3.2.2 53 C) (ps ++ (qw n P (tl B (18 + l)) s).1) (hs ++ [B 16 l]) := by
          rw [← hu3]
          refine ⟨(show upd (upd u2.1 34 (nI (qw n P (tl B (18 + l)) s).2)) 40 (nI (hs.length + 1)) 42 = u2.1 42 from (pk_un (by decide)).trans (pk_un (by decide))).trans f3, f4, ?_, fun i hi => ?_⟩
          · show upd (upd u2.1 34 (nI (qw n P (tl B (18 + l)) s).2)) 40 (nI (hs.length + 1)) 40 = _
            rw [pk_us, List.length_append]; rfl
          · rw [List.length_append, List.length_singleton] at hi
            show up2 u2.2.2 41 hs.length (B 16 l) 41 i = _
            rw [up2_self]
            by_cases e : i = hs.length
            · subst e; rw [pk_us, getD_e]
            · rw [pk_un e, getD_l (by omega)]; exact h412 i (by omega)
        obtain ⟨u5, k1, k2, k3, k4⟩ := ih (k + 1) F (qw n P (tl B (18 + l)) s).2 (fun r => decide (nI r = B 16 l)) (ps ++ (qw n P (tl B (18 + l)) s).1) (hs ++ [B 16 l]) (u3.1, u3.2.1, setA u3.2.2 53 C) hM4 (by omega) (by omega) (by omega) hqw.2.1 h34' (fun r hr => (congrFun (setA_self u3.2.2 53 C) r).trans (hC r (by omega))) hR4 (by rw [List.length_append]; omega) (by rw [List.length_append, List.length_singleton]; omega)
        refine ⟨u5, ((((ur1.trans f1.ur).trans ur3).trans (ur53 u3 C)).trans k1), ?_, k3, k4⟩
        rw [← k2, hcmb]
        have hx : oI (some (18 + l)) = nI (18 + l) := rfl
        have e18 : nI (18 + l) - 18 = nI l := by
          have := nI_sub (a := 18 + l) (b := 18) (by omega)
          rw [Nat.add_sub_cancel_left] at this
          exact this
        have h18 : (18 : Int32) ≤ nI (18 + l) := nI_le (a := 18) (b := 18 + l) (by omega) (by omega)
        have e16 : gk_il (me z D t (upd u2.1 34 (nI (qw n P (tl B (18 + l)) s).2), u2.2)) 0 (some (z + 40)) (nI l) = some (B 16 l) := by
          rw [mo_il_16 (by omega)]
          exact congrArg some (congrFun (hM2.2.2.2.2.2 16 (by decide)) l)
        have e40 : upd u2.1 34 (nI (qw n P (tl B (18 + l)) s).2) 40 = nI hs.length := (pk_un (by decide)).trans h402
        have h66 : (6 : Int32) ≤ nI 6 := by decide
        rw [hx, if_pos (nI_pos' (show 18 + l < 2 ^ 31 by omega)), if_pos h18]
        simp only [mo_gi_34, h341, Option.bind_some, mo_ob, f2, mo_pf_34, mo_gr_16, e18, e16, mo_gr_41, mo_gi_40, e40, mo_is_41 (show hs.length < 26 by omega), nar_int, mo_pf_40, nI_1, fn_Mo_stageTwo_244]
        rw [hu3, hw2]
        simp only [fn_Mo_stageTwo_244_bd, if_pos h66, nI_1]
      | none =>
        cases hbm : bM n P B S s mn with
        | none =>
          have hbl : bL n P B S s ln = none := by
            cases hbl : bL n P B S s ln with
            | none => rfl
            | some l => rw [hbm, hbl] at hu; simp only [useL] at hu; cases hu
          refine ⟨u1, ur1, ?_, hR1, fun C hC => by cases hC⟩
          have hx : ¬ 0 ≤ oI (cmb B none none) := by show ¬ (0 : Int32) ≤ -1; decide
          rw [hbl, if_neg hx]
          rfl
        | some m =>
          have hbo := hv_ok hbm
          have hok := hbo.1
          unfold okM at hok
          simp only [Bool.and_eq_true, decide_eq_true_eq] at hok
          obtain ⟨hg, w1, w2⟩ := hgm m hbo.2
          obtain ⟨hg4, l', hl'⟩ := hg.2.2.2.2 hok.1.1
          have hcmb : cmb B (some m) (bL n P B S s ln) = some (6 + m) := by
            cases hbl : bL n P B S s ln with
            | none => rfl
            | some l =>
              rw [hbm, hbl] at hu
              unfold useL at hu
              simp only at hu
              split at hu
              · cases hu
              · rename_i c; unfold cmb; simp only; rw [if_neg c]
          obtain ⟨c', wc, hc', hwc⟩ := lp_to (body := fun (kk : Option Nat × Int32 × Int32 × gk_M → Option (Int32 × gk_M)) a => fn_Mo_stageTwo_126_bd (fun a0 x3 x4 M => kk (a0, x3, x4, M)) a.1 a.2.1 a.2.2.1 a.2.2.2) (fun i st => ∃ C : Nat → Int32, st = (some (z + 27), nI (6 + m), nI i, me z D t (u1.1, u1.2.1, setA u1.2.2 54 C)) ∧ ∀ r, r < i → C r = b2 (mS B S m r)) mn (fun i st hi hst => by
            obtain ⟨C, rfl, hC⟩ := hst
            refine ⟨_, ⟨upd C i (b2 (mS B S m i)), rfl, fun r hr => ?_⟩, fun kk => ?_⟩
            · by_cases e : r = i
              · subst e; rw [pk_us]
              · rw [pk_un e]; exact hC r (by omega)
            · have hs1 : ∀ b : Bool, gk_is (me z D t (u1.1, u1.2.1, setA u1.2.2 54 C)) 2 .boolean (some (z + 60)) (nI i) (b2 b) = some (me z D t (u1.1, u1.2.1, setA u1.2.2 54 (upd C i (b2 b)))) := fun b => by
                rw [mo_is_54 (by omega)]; simp only [setA_up]; cases b <;> rfl
              have hsT := hs1 true
              have hsF := hs1 false
              rw [b2_t] at hsT
              rw [b2_f] at hsF
              obtain ⟨hgi, v1, v2⟩ := hgm i hi
              have hMc := hM1.ur (ur54 u1 C)
              have e6 : gk_il (me z D t (u1.1, u1.2.1, setA u1.2.2 54 C)) 0 (some (z + 31)) (nI i) = some (nI (ow B i)) := by rw [mo_il_6 (by omega), hMc.2.2.2.2.2 6 (by decide), v1]
              have e53 : gk_il (me z D t (u1.1, u1.2.1, setA u1.2.2 54 C)) 2 (some (z + 59)) (nI (ow B i)) = some (b2 (S (ow B i))) := by
                rw [mo_il_53 (by omega)]
                exact congrArg some ((congrFun (setA_ne (i := 54) (a := 53) u1.2.2 C (by decide)) _).trans (h531 _ v2))
              have hsm := mm_same (z := z) (D := D) (t := t) hMc (T := 6 + i) (T' := 6 + m) (by omega) (by omega) hgi hg
              have hms : mS B S m i = (S (ow B i) && decide (tl B (6 + i) = tl B (6 + m))) := by
                unfold mS
                by_cases c0 : 0 < tm B (6 + i)
                · rw [decide_eq_true c0, Bool.true_and]
                · rw [decide_eq_false c0, Bool.false_and, tl_nil (show tm B (6 + i) = 0 by omega), hl', decide_eq_false (by simp)]
              simp only [fn_Mo_stageTwo_126_bd, mo_gi_5, hM1.2.1, Option.bind_some, if_neg (nI_ge hi (by omega)), mo_gr_54, mo_gr_53, mo_gr_6, e6, e53, b2_0, mo_ob, nI6, hsm, fn_Mo_stageTwo_173, fn_Mo_stageTwo_174, hsT, hsF, nI_1, hms]
              rcases bool_or (S (ow B i)) with hSo | hSo
              · simp only [hSo, if_true, Bool.false_and, b2_f]
              · simp only [hSo, Bool.true_eq_false, if_false, Bool.true_and]
                rcases bool_or (decide (tl B (6 + i) = tl B (6 + m))) with hd | hd
                · simp only [hd, if_true, b2_f]
                · simp only [hd, Bool.true_eq_false, if_false, b2_t]) mn 0 gk_fuel (some (z + 27), nI (6 + m), 0, me z D t u1) (by omega) (by unfold gk_fuel; omega) ⟨u1.2.2 54, by rw [setA_id]; rfl, fun r hr => absurd hr (by omega)⟩
          obtain ⟨C, rfl, hC⟩ := hc'
          have hMc := hM1.ur (ur54 u1 C)
          obtain ⟨u2, f1, f2, f3, f4⟩ := mm_count (z := z) (D := D) (t := t) (ps := ps) hMc hn (T := 6 + m) (s := s) (by omega) hg hok.1.1 hsn hok.2.1 hR1.1 hR1.2.1 (by omega)
          refine ⟨(upd u2.1 34 (nI (qw n P (tl B (6 + m)) s).2), u2.2), ?_, ?_, ?_, fun C' hC' r hr => ?_⟩
          · exact ((ur1.trans (ur54 u1 C)).trans f1.ur).trans ⟨fun k k1 _ _ _ _ => pk_un k1, rfl, fun _ _ _ _ _ _ _ _ _ _ => rfl⟩
          · have hx : oI (some (6 + m)) = nI (6 + m) := rfl
            have h18 : ¬ (18 : Int32) ≤ nI (6 + m) := nI_ge (a := 6 + m) (b := 18) (by omega) (by omega)
            rw [hcmb, hx, if_pos (nI_pos' (show 6 + m < 2 ^ 31 by omega)), if_neg h18]
            unfold fn_Mo_stageTwo_126
            rw [hwc]
            simp only [fn_Mo_stageTwo_126_bd, mo_gi_5, hM1.2.1, Option.bind_some, if_pos (Int32.le_refl _), mo_gi_34, h341, mo_ob, f2, mo_pf_34, Option.isSome_some, if_true]
          · refine ⟨(show upd u2.1 34 (nI (qw n P (tl B (6 + m)) s).2) 42 = u2.1 42 from pk_un (by decide)).trans f3, f4, (show upd u2.1 34 (nI (qw n P (tl B (6 + m)) s).2) 40 = u2.1 40 from pk_un (by decide)).trans ((f1.1 40 (by decide) (by decide) (by decide)).trans hR1.2.2.1), ?_⟩
            show ∀ i, i < hs.length → u2.2.2 41 i = hs.getD i 0
            rw [f1.2.2 41 (by decide) (by decide) (by decide) (by decide) (by decide) (by decide)]
            exact hR1.2.2.2
          · cases hC'
            show u2.2.2 54 r = _
            rw [f1.2.2 54 (by decide) (by decide) (by decide) (by decide) (by decide) (by decide)]
            exact (congrFun (setA_self u1.2.2 54 C) r).trans (hC r hr)
    · simp only [ha, Bool.true_eq_false, if_false, st2, if_true, Option.isSome_some]
      refine ⟨(u.1, u.2.1, setA u.2.2 54 Cd), ur54 u Cd, rfl, hR, fun C hC m hm => ?_⟩
      cases hC
      refine (congrFun (setA_self u.2.2 54 Cd) m).trans ?_
      rw [hCd m (by omega), decide_eq_true hm, Bool.true_and]
end
