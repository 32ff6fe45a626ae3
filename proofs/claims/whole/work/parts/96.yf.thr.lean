/-! stage three, the reference's -/
def RR (B : Nat → Nat → Int32) (x : Int32) (m : Nat) : Nat := if (!decide (x = 0)) = true then rk (B 8 m) else 0
theorem RR_le (B : Nat → Nat → Int32) (x : Int32) (m : Nat) : RR B x m ≤ 2 := by
  unfold RR
  split
  · exact rk_le _
  · omega
theorem vm_t {na : Nat} {ty : Nat → Int32} {qs : Nat → Nat} {B : Nat → Nat → Int32} {x : Int32} {C : Nat → Bool} {m : Nat} (h : C m = true) : vm na ty qs B (RR B x) C m = (fm (wo ty qs (B 9 m) (qy B m)) na).map (shf (RR B x m) m) := by
  unfold vm; rw [if_pos h]; rfl
theorem vm_f {na : Nat} {ty : Nat → Int32} {qs : Nat → Nat} {B : Nat → Nat → Int32} {R : Nat → Nat} {C : Nat → Bool} {m : Nat} (h : C m = false) : vm na ty qs B R C m = none := by
  unfold vm; rw [h]; rfl
theorem fs_shf (R m : Nat) (a b : Option (Nat × Nat)) : (fs a b).map (shf R m) = fs (a.map (shf R m)) (b.map (shf R m)) := fs_map (R * 9018009) (fun k => (m, k)) a b
theorem u3_r (f : Nat → Int32) (a b c : Int32) : upd (upd (upd f 35 a) 35 b) 39 c 38 = f 38 ∧ upd (upd (upd f 35 a) 35 b) 39 c 35 = b ∧ upd (upd (upd f 35 a) 35 b) 39 c 39 = c := by
  refine ⟨?_, ?_, pk_us⟩
  · rw [pk_un (by decide), pk_un (by decide), pk_un (by decide)]
  · rw [pk_un (by decide), pk_us]
section
variable {z : Nat} {D : gk_M} {rn mn ln n na : Nat} {P : Nat → Int32} {B : Nat → Nat → Int32} {t : sd_S} {u : mo_S} {ty : Nat → Int32} {qs : Nat → Nat} {C : Nat → Bool}
theorem ms_row (hM : MM rn mn ln n P B u) (h12 : mn ≤ 12) {m : Nat} (hm : m < mn) (hmr : mrg rn B m) {x : Int32} (hA : AL na ty qs) (hAM : AM na ty qs u) (hC : ∀ m, m < mn → u.2.2 54 m = b2 (C m)) {r : Option (Nat × (Nat × Nat))} (hK : KS ty B u r) (hr : ∀ p, r = some p → p.1 < 27054027) : ∃ u', uw u u' ∧ (∀ K, fn_Mo_stageThree_264 K (some (z + 27)) x (nI m) 0 (me z D t u) = K (some (z + 27)) x (nI (m + 1)) (me z D t u')) ∧ KS ty B u' (fs r (vm na ty qs B (RR B x) C m)) := by
  have h4 := hA.1
  have q2 := (qy_of hmr).2
  obtain ⟨F, hF⟩ : ∃ F, gk_fuel = F + 1 := ⟨4095, rfl⟩
  have e54 : ∀ u', uw u u' → gk_il (me z D t u') 2 (some (z + 60)) (nI m) = some (b2 (C m)) := fun u' q => by rw [mo_il_54 (by omega), q.2, hC m hm]
  have hrb : ∀ j, j ≤ na → ∀ p, fs r ((fm (wo ty qs (B 9 m) (qy B m)) j).map (shf (RR B x m) m)) = some p → p.1 < 2 ^ 31 := by
    intro j hj p hp
    rcases fs_ex hp with hp | hp
    · have := hr p hp; omega
    · cases hf : fm (wo ty qs (B 9 m) (qy B m)) j with
      | none => rw [hf] at hp; cases hp
      | some y =>
        rw [hf] at hp
        cases hp
        obtain ⟨i, i1, i2⟩ := fm_ex hf
        have := (wo_b (hA.2 i (by omega)).2 q2 i2).1
        have h2 : RR B x m * 9018009 ≤ 2 * 9018009 := Nat.mul_le_mul_right _ (RR_le B x m)
        show RR B x m * 9018009 + y.1 < 2 ^ 31
        omega
  rcases bool_or (C m) with hc | hc
  · refine ⟨u, uw.refl u, fun K => ?_, by rw [vm_f hc, fs_n]; exact hK⟩
    have e := e54 u (uw.refl u)
    rw [hc, b2_f] at e
    have h310 : fn_Mo_stageThree_310 K (some (z + 27)) x (nI m) (me z D t u) = K (some (z + 27)) x (nI (m + 1)) (me z D t u) := by
      unfold fn_Mo_stageThree_310 fn_Mo_stageThree_338
      simp only [mo_gi_25, Option.bind_some, mo_gr_54, e, if_pos, nI_1]
      split <;> rfl
    unfold fn_Mo_stageThree_264
    rw [hF, gk_loop_s]
    show fn_Mo_stageThree_264_bd K _ (some (z + 27)) x (nI m) 0 (me z D t u) = _
    unfold fn_Mo_stageThree_264_bd
    simp only [mo_gi_25, Option.bind_some, mo_gr_54, e, h310, if_pos]
    split <;> rfl
  · rw [vm_t hc]
    rcases id hAM with ⟨c1, c2, c3⟩ | ⟨c1, c2, c3, c4⟩
    · obtain ⟨a', w, h1, h2⟩ := lp_toK (body := fun (K : Option Nat → Int32 → Int32 → gk_M → Option (Int32 × gk_M)) (kk : Option Nat × Int32 × Int32 × Int32 × gk_M → Option (Int32 × gk_M)) a => fn_Mo_stageThree_264_bd K (fun a0 x1 x4 x5 M => kk (a0, x1, x4, x5, M)) a.1 a.2.1 a.2.2.1 a.2.2.2.1 a.2.2.2.2) (fun j st => ∃ u', uw u u' ∧ st = (some (z + 27), x, nI m, nI j, me z D t u') ∧ KS ty B u' (fs r ((fm (wo ty qs (B 9 m) (qy B m)) j).map (shf (RR B x m) m)))) na (fun j st hj hst => by
        obtain ⟨u1, q1, rfl, hK1⟩ := hst
        obtain ⟨a1, a2⟩ := hA.2 j hj
        obtain ⟨u2, w1, w2, w3⟩ := ms_weigh (z := z) (D := D) (t := t) (x := x) (hM.us q1.us) h12 hm hmr a1 a2 hK1 (hrb j (by omega))
        refine ⟨_, ⟨u2, q1.trans w1, rfl, ?_⟩, fun K kk => ?_⟩
        · rw [fs_assoc] at w3
          show KS ty B u2 (fs r ((fs (fm (wo ty qs (B 9 m) (qy B m)) j) (wo ty qs (B 9 m) (qy B m) j)).map (shf (RR B x m) m)))
          rw [fs_shf]
          exact w3
        · have e := e54 u1 q1
          rw [hc, b2_t] at e
          have e25 : gk_gi (me z D t u1) 12 25 (some (z + 27)) = some (nI na) := by rw [mo_gi_25, q1.1 25 (by decide) (by decide), c1]
          have e26 : gk_il (me z D t u1) 0 (some (z + 48)) (nI j) = some (ty j) := by rw [mo_il_26 (by omega), q1.2, (c3 j hj).1]
          have e27 : gk_il (me z D t u1) 0 (some (z + 49)) (nI j) = some (nI (qs j)) := by rw [mo_il_27 (by omega), q1.2, (c3 j hj).2]
          simp only [fn_Mo_stageThree_264_bd, e25, Option.bind_some, if_neg (nI_ge hj (by omega)), mo_gr_54, e, if_neg e10, mo_gr_26, e26, mo_gr_27, e27, mo_ob, w2, nI_1]) na 0 gk_fuel (some (z + 27), x, nI m, 0, me z D t u) (by omega) (by unfold gk_fuel; omega) ⟨u, uw.refl u, rfl, hK⟩
      obtain ⟨u', q1, rfl, hK'⟩ := h1
      refine ⟨u', q1, fun K => ?_, hK'⟩
      unfold fn_Mo_stageThree_264
      rw [h2 K]
      have e25 : gk_gi (me z D t u') 12 25 (some (z + 27)) = some (nI na) := by rw [mo_gi_25, q1.1 25 (by decide) (by decide), c1]
      simp only [fn_Mo_stageThree_264_bd, e25, Option.bind_some, if_pos (Int32.le_refl _), fn_Mo_stageThree_310, if_neg (nI_ne0 c2 (by omega)), fn_Mo_stageThree_338, nI_1]
    · subst c2
      obtain ⟨u2, w1, w2, w3⟩ := ms_weigh (z := z) (D := D) (t := t) (x := x) hM h12 hm hmr (hA.2 0 (by omega)).1 (hA.2 0 (by omega)).2 hK (hrb 0 (by omega))
      rw [c3, c4, show nI 1000 = 1000 from rfl] at w2
      refine ⟨u2, w1, fun K => ?_, ?_⟩
      · have e := e54 u (uw.refl u)
        rw [hc, b2_t] at e
        have e25 : gk_gi (me z D t u) 12 25 (some (z + 27)) = some 0 := by rw [mo_gi_25, c1]
        unfold fn_Mo_stageThree_264
        rw [hF, gk_loop_s]
        show fn_Mo_stageThree_264_bd K _ (some (z + 27)) x (nI m) 0 (me z D t u) = _
        unfold fn_Mo_stageThree_264_bd
        rw [e25, Option.bind_some, if_pos (Int32.le_refl _)]
        unfold fn_Mo_stageThree_310
        rw [e25, Option.bind_some, if_pos rfl]
        simp only [mo_gr_54, Option.bind_some, e, if_neg e10, mo_ob, w2, fn_Mo_stageThree_338, nI_1]
      · show KS ty B u2 (fs r ((fs none (wo ty qs (B 9 m) (qy B m) 0)).map (shf (RR B x m) m)))
        rw [fs_0]
        exact w3
theorem ms_252 (hM : MM rn mn ln n P B u) (h12 : mn ≤ 12) (hmr : ∀ m, m < mn → mrg rn B m) {x : Int32} (hA : AL na ty qs) (hAM : AM na ty qs u) (hC : ∀ m, m < mn → u.2.2 54 m = b2 (C m)) (hK : u.2.1 = -1) {p : Nat × (Nat × Nat)} (hp : fm (vm na ty qs B (RR B x) C) mn = some p) : ∃ u', us u u' ∧ fn_Mo_stageThree_252 (some (z + 27)) x 0 (me z D t u) = some ((e3 B ty (some p)).1, me z D t u') ∧ u'.1 38 = u.1 38 ∧ ((e3 B ty (some p)).2 = none → u'.1 35 = -1 ∧ u'.1 39 = u.1 39) ∧ ∀ q, (e3 B ty (some p)).2 = some q → u'.1 35 = nI q.1 ∧ u'.1 39 = q.2 := by
  have h4 := hA.1
  unfold fn_Mo_stageThree_252
  obtain ⟨a', w, h1, h2⟩ := lp_to (body := fun (kk : Option Nat × Int32 × Int32 × gk_M → Option (Int32 × gk_M)) a => fn_Mo_stageThree_252_bd (fun a0 x1 x4 M => kk (a0, x1, x4, M)) a.1 a.2.1 a.2.2.1 a.2.2.2) (fun i st => ∃ u', uw u u' ∧ st = (some (z + 27), x, nI i, me z D t u') ∧ KS ty B u' (fm (vm na ty qs B (RR B x) C) i)) mn (fun i st hi hst => by
    obtain ⟨u1, q1, rfl, hK1⟩ := hst
    obtain ⟨u2, w1, w2, w3⟩ := ms_row (z := z) (D := D) (t := t) (x := x) (hM.us q1.us) h12 hi (hmr i hi) hA (hAM.us q1.us) (fun m hm => by rw [q1.2]; exact hC m hm) hK1 (fm_b (fun j hj p hp => (vm_b hA (RR_le B x j) (qy_of (hmr j (by omega))).2 hp).1))
    refine ⟨_, ⟨u2, q1.trans w1, rfl, w3⟩, fun kk => ?_⟩
    have e5 : gk_gi (me z D t u1) 12 5 (some (z + 27)) = some (nI mn) := by rw [mo_gi_5, q1.1 5 (by decide) (by decide), hM.2.1]
    simp only [fn_Mo_stageThree_252_bd, e5, Option.bind_some, if_neg (nI_ge hi (by omega)), w2]) mn 0 gk_fuel (some (z + 27), x, 0, me z D t u) (by omega) (by unfold gk_fuel; omega) ⟨u, uw.refl u, rfl, hK⟩
  obtain ⟨u1, q1, rfl, hK1⟩ := h1
  rw [h2]
  rw [hp] at hK1
  obtain ⟨k1, k2, k3⟩ := hK1
  obtain ⟨i, i1, i2⟩ := fm_ex hp
  obtain ⟨-, v0, -, y, v1, -, v3, v4⟩ := vm_b hA (RR_le B x i) (qy_of (hmr i i1)).2 i2
  subst v0
  have hac : (cv (B 9 p.2.1) (ty p.2.2) || cv (ty p.2.2) (B 9 p.2.1)) = true := by
    unfold wo ac at v4
    split at v4
    · rename_i hh; rw [Bool.and_eq_true] at hh; exact hh.1
    · cases v4
  obtain ⟨-, -, m3⟩ := mt_c (hA.2 _ v3).1 (hmr _ i1).2.2.2.1 hac
  obtain ⟨t1, t2, t4⟩ := at3_m m3
  have e5 : gk_gi (me z D t u1) 12 5 (some (z + 27)) = some (nI mn) := by rw [mo_gi_5, q1.1 5 (by decide) (by decide), hM.2.1]
  have e56 : upd u1.1 35 (-1) 56 = mt (ty p.2.2) (B 9 p.2.1) := (pk_un (by decide)).trans k3
  have e56' : upd (upd u1.1 35 (-1)) 35 (nI p.2.1) 56 = mt (ty p.2.2) (B 9 p.2.1) := (pk_un (by decide)).trans e56
  have h38 : u1.1 38 = u.1 38 := q1.1 38 (by decide) (by decide)
  have h39 : u1.1 39 = u.1 39 := q1.1 39 (by decide) (by decide)
  have hus1 : us u (upd u1.1 35 (-1), u1.2) := ⟨fun k a b c d => (pk_un (f := u1.1) (x := -1) a).trans (q1.1 k a d), fun k _ => congrFun q1.2 k⟩
  simp only [fn_Mo_stageThree_252_bd, e5, Option.bind_some, if_pos (Int32.le_refl _), mo_gi_35, k2, mo_pf_35, mo_gi_56, e56, ty_mod m3]
  by_cases c : at3 (mt (ty p.2.2) (B 9 p.2.1)) = -1
  · have hm0 : (mt (ty p.2.2) (B 9 p.2.1) &&& 15) = 0 := Decidable.byContradiction fun q => t4 q c
    have h16 : ¬ mt (ty p.2.2) (B 9 p.2.1) ≤ 16 := by rw [t1 hm0]; exact fun q => q c
    rw [if_pos hm0, if_neg h16]
    simp only [e3, if_pos c]
    refine ⟨_, hus1, rfl, ?_, fun _ => ⟨?_, ?_⟩, fun q hq => by cases hq⟩
    · exact (pk_un (f := u1.1) (k := 35) (j := 38) (x := -1) (by decide)).trans h38
    · exact pk_us (f := u1.1) (k := 35) (x := -1)
    · exact (pk_un (f := u1.1) (k := 35) (j := 39) (x := -1) (by decide)).trans h39
  · have h376 : fn_Mo_stageThree_376 (some (z + 27)) (nI p.2.1) (me z D t (upd u1.1 35 (-1), u1.2)) = some (0, me z D t (upd (upd (upd u1.1 35 (-1)) 35 (nI p.2.1)) 39 (at3 (mt (ty p.2.2) (B 9 p.2.1))), u1.2)) := by
      simp only [fn_Mo_stageThree_376, mo_pf_35, Option.bind_some, mo_gi_56, e56', ty_mod m3, fn_Mo_stageThree_402, mo_pf_39]
      rw [t2 c]
      by_cases hm0 : (mt (ty p.2.2) (B 9 p.2.1) &&& 15) = 0
      · rw [if_pos hm0, if_pos hm0]
      · rw [if_neg hm0, if_neg hm0]
    simp only [e3, if_neg c]
    refine ⟨(upd (upd (upd u1.1 35 (-1)) 35 (nI p.2.1)) 39 (at3 (mt (ty p.2.2) (B 9 p.2.1))), u1.2), ⟨fun k a b c d => ?_, fun k _ => congrFun q1.2 k⟩, ?_, ?_, (fun hq => by cases hq), fun q hq => ?_⟩
    · exact ((pk_un c).trans ((pk_un a).trans (pk_un a))).trans (q1.1 k a d)
    · by_cases hm0 : (mt (ty p.2.2) (B 9 p.2.1) &&& 15) = 0
      · rw [if_pos hm0, if_pos (by rw [t1 hm0]; exact c)]
        exact h376
      · rw [if_neg hm0]
        exact h376
    · exact (u3_r u1.1 (-1) (nI p.2.1) (at3 (mt (ty p.2.2) (B 9 p.2.1)))).1.trans h38
    · cases hq
      exact ⟨(u3_r u1.1 (-1) (nI p.2.1) (at3 (mt (ty p.2.2) (B 9 p.2.1)))).2.1, (u3_r u1.1 (-1) (nI p.2.1) (at3 (mt (ty p.2.2) (B 9 p.2.1)))).2.2⟩
end
