/-! the steps of a request: the reference's -/
def oC (u : mo_S) (r : Option Nat) : Prop := match r with
  | none => u.1 36 = 0 ∧ u.1 37 = 0
  | some a => u.1 36 = 1 ∧ u.1 37 = nI a
def OU (u : mo_S) (r : RS) : Prop := RM u r.2.2.2.2.2.1 r.2.2.2.2.2.2.1 ∧ RQ u r.2.2.2.2.2.2.2 ∧ u.1 35 = oI r.2.1 ∧ oC u r.2.2.1 ∧ u.1 38 = r.2.2.2.1 ∧ u.1 39 = r.2.2.2.2.1 ∧ u.1 32 = r.1
def uy (u u' : mo_S) : Prop := (∀ k, (k < 30 ∨ k = 31) → u'.1 k = u.1 k) ∧ ∀ k, (k < 23 ∨ (24 ≤ k ∧ k < 29)) → u'.2.2 k = u.2.2 k
theorem uy.trans {u u' u'' : mo_S} (h : uy u u') (h' : uy u' u'') : uy u u'' := ⟨fun k a => (h'.1 k a).trans (h.1 k a), fun k a => (h'.2 k a).trans (h.2 k a)⟩
theorem uv.uy {u u' : mo_S} (h : uv u u') : uy u u' := ⟨fun k hk => h.1 k (by omega) (by omega) (by omega) (by omega), fun k hk => h.2.2 k (by omega) (by omega)⟩
theorem ur.uy {u u' : mo_S} (h : ur u u') : uy u u' := ⟨fun k hk => h.1 k (by omega) (by omega) (by omega) (by omega) (by omega), fun k hk => h.2.2 k (by omega) (by omega) (by omega) (by omega) (by omega) (by omega) (by omega) (by omega) (by omega)⟩
theorem us.uy {u u' : mo_S} (h : us u u') : uy u u' := ⟨fun k hk => h.1 k (by omega) (by omega) (by omega) (by omega), fun k hk => h.2 k (by omega)⟩
theorem ui.uy {u u' : mo_S} (h : ui u u') : uy u u' := ⟨fun k hk => h.1 k (by omega) (by omega) (by omega) (by omega), fun k hk => by rw [h.2]⟩
/-- what stays -/
def MB (rn mn ln n nf na : Nat) (P : Nat → Int32) (B : Nat → Nat → Int32) (ty : Nat → Int32) (qs : Nat → Nat) (mp : Nat → Int32) (hd : Int32) (u : mo_S) : Prop := MM rn mn ln n P B u ∧ FM nf B u ∧ AM na ty qs u ∧ u.1 31 = hd ∧ ∀ k, k < 16 → u.2.2 24 k = mp k ∧ (mp k = 0 ∨ wi (mp k) 100 599 = true)
theorem MB.uy {rn mn ln n nf na : Nat} {P : Nat → Int32} {B : Nat → Nat → Int32} {ty : Nat → Int32} {qs : Nat → Nat} {mp : Nat → Int32} {hd : Int32} {u u' : mo_S} (h : MB rn mn ln n nf na P B ty qs mp hd u) (q : uy u u') : MB rn mn ln n nf na P B ty qs mp hd u' := by
  obtain ⟨⟨h1, h2, h3, h4, h5, h6⟩, hF, hA, h31, hm⟩ := h
  obtain ⟨q1, q2⟩ := q
  refine ⟨⟨(q1 4 (by omega)).trans h1, (q1 5 (by omega)).trans h2, (q1 14 (by omega)).trans h3, (q1 29 (by omega)).trans h4, fun i hi => by rw [q2 28 (by omega)]; exact h5 i hi, fun k hk => (q2 k (by omega)).trans (h6 k hk)⟩, ⟨(q1 17 (by omega)).trans hF.1, (q2 12 (by omega)).trans hF.2.1, fun k a b => (q2 k (by omega)).trans (hF.2.2 k a b)⟩, ?_, (q1 31 (by omega)).trans h31, fun k hk => by rw [q2 24 (by omega)]; exact hm k hk⟩
  unfold AM
  rw [q1 25 (by omega), q2 26 (by omega), q2 27 (by omega)]
  exact hA
theorem RM.of {u u' : mo_S} {ps : List (Nat × Nat)} {hs : List Int32} (h : RM u ps hs) (h1 : u'.1 40 = u.1 40) (h2 : u'.1 42 = u.1 42) (h3 : u'.2.2 41 = u.2.2 41) (h4 : u'.2.2 43 = u.2.2 43) (h5 : u'.2.2 44 = u.2.2 44) : RM u' ps hs := by
  obtain ⟨a, b, c, d⟩ := h
  exact ⟨h2.trans a, by rw [h4, h5]; exact b, h1.trans c, fun i hi => by rw [h3]; exact d i hi⟩
theorem RQ.of {u u' : mo_S} {L : List Nat} (h : RQ u L) (h1 : u'.1 45 = u.1 45) (h2 : u'.2.2 46 = u.2.2 46) : RQ u' L := ⟨h1.trans h.1, fun i hi => by rw [h2]; exact h.2 i hi⟩
section
variable {z : Nat} {D : gk_M} {rn mn ln n nf na : Nat} {P : Nat → Int32} {P4 P5 P6 P8 : Nat → Option Nat} {B : Nat → Nat → Int32} {t : sd_S} {u : mo_S} {ρ σ : Nat → Nat} {ty : Nat → Int32} {qs : Nat → Nat} {mp : Nat → Int32} {mo : Option Nat} {hd : Int32}
theorem UU_0 {E : Nat → Bool} (f : Nat) : UU ρ E 0 f = E f := by
  unfold UU ps
  simp only [anyb, Bool.not_false, Bool.and_true]
theorem ms_filterA (hF : FM nf B u) (hn : nf ≤ 8) (h12 : mn ≤ 12) (hmo : ∀ m, mo = some m → m < mn) {K : Nat} (hK : K < 2) (hO : ORD nf ρ (qq B K)) {v : Int32} (h31 : u.1 31 = hd) (hH : HV u v) {L : List Nat} (hR : RQ u L) (hL : L.length + (gF ρ (EF B mo K) hd B nf 0 v).2.length ≤ 8) : ∃ u', uv u u' ∧ fn_Mo_filterAll (some (z + 27)) (nI K) (oI mo) (me z D t u) = some (me z D t u') ∧ HV u' (gF ρ (EF B mo K) hd B nf 0 v).1 ∧ RQ u' (L ++ (gF ρ (EF B mo K) hd B nf 0 v).2) := by
  obtain ⟨A, a1, a2⟩ := ms_mark (z := z) (D := D) (t := t) hF hn h12 hmo (K := K) (by omega)
  obtain ⟨u', g1, g2, g3, g4⟩ := ms_fa (z := z) (D := D) (t := t) hn hK hO (EF B mo K) hd nf 0 gk_fuel 0 v (u.1, u.2.1, setA u.2.2 23 A) L (by omega) (by unfold gk_fuel; omega) (by omega) (hF.uv (uv23 u A)) h31 hH (fun f hf => by
    rw [UU_0]
    exact (congrFun (setA_self u.2.2 23 A) f).trans (a2 f hf)) (hR.of rfl (setA_ne (i := 23) (a := 46) u.2.2 A (by decide))) hL
  refine ⟨u', (uv23 u A).trans g1, ?_, g3, g4⟩
  rw [a1]
  exact g2
theorem ms_filterE (hF : FM nf B u) (hn : nf ≤ 8) (h12 : mn ≤ 12) (hmo : ∀ m, mo = some m → m < mn) (hO : ORD nf σ (qq B 2)) {L : List Nat} (hR : RQ u L) (hL : L.length + (gE σ (EF B mo 2) nf 0).length ≤ 8) : ∃ u', uv u u' ∧ u'.1 32 = u.1 32 ∧ fn_Mo_filterAll (some (z + 27)) 2 (oI mo) (me z D t u) = some (me z D t u') ∧ RQ u' (L ++ gE σ (EF B mo 2) nf 0) := by
  obtain ⟨A, a1, a2⟩ := ms_mark (z := z) (D := D) (t := t) hF hn h12 hmo (K := 2) (by omega)
  obtain ⟨u', g1, g0, g2, g4⟩ := ms_fe (z := z) (D := D) (t := t) hn hO (EF B mo 2) nf 0 gk_fuel 0 (u.1, u.2.1, setA u.2.2 23 A) L (by omega) (by unfold gk_fuel; omega) (by omega) (hF.uv (uv23 u A)) (fun f hf => by
    rw [UU_0]
    exact (congrFun (setA_self u.2.2 23 A) f).trans (a2 f hf)) (hR.of rfl (setA_ne (i := 23) (a := 46) u.2.2 A (by decide))) hL
  refine ⟨u', (uv23 u A).trans g1, g0.2.1, ?_, g4⟩
  rw [show (2 : Int32) = nI 2 from rfl, a1]
  exact g2
theorem ms_k5 (hB : MB rn mn ln n nf na P B ty qs mp hd u) (hn8 : nf ≤ 8) (h12 : mn ≤ 12) (hn : n ≤ 24) (hkc : ∀ i, i < n → kc (P i) = true) (hO : ORD nf ρ (qq B 1)) (hmr : ∀ m, m < mn → mrg rn B m) {m : Nat} (hm : m < mn) {ps : List (Nat × Nat)} {hs : List Int32} {L0 : List Nat} (hRM : RM u ps hs) (hlen : ps.length ≤ 104) (hin : ∀ g ∈ ps, g.1 ≤ g.2 ∧ g.2 ≤ n) (hRQ : RQ u L0) (h35 : u.1 35 = nI m) (h36 : u.1 36 = 0) (h37 : u.1 37 = 0) {v0 : Int32} (hv : ¬ 100 ≤ v0) (hH : HV u v0) (hL : L0.length + (gF ρ (EF B (some m) 1) hd B nf 0 v0).2.length ≤ 8) : ∃ u', uy u u' ∧ fn_Mo_request_238 (some (z + 27)) (me z D t u) = fn_Mo_request_265 (some (z + 27)) (me z D t u') ∧ OU u' (k5 nf P B ρ mp hd v0 (u.1 38) ps hs L0 m (u.1 39)) := by
  obtain ⟨hMM, hFM, hAM, h31, hmp⟩ := id hB
  obtain ⟨u1, q1, r1, H1, n1⟩ := ms_filterA (z := z) (D := D) (t := t) (mo := some m) hFM hn8 h12 (fun m' hm' => by cases hm'; exact hm) (K := 1) (by omega) hO h31 hH hRQ hL
  have hx : oI (some m) = nI m := rfl
  rw [hx, show nI 1 = 1 from rfl] at r1
  have k1' : ∀ k, k ≠ 30 → k ≠ 32 → k ≠ 33 → k ≠ 45 → u1.1 k = u.1 k := q1.1
  have hRM1 : RM u1 ps hs := hRM.of (k1' 40 (by decide) (by decide) (by decide) (by decide)) (k1' 42 (by decide) (by decide) (by decide) (by decide)) (q1.2.2 41 (by decide) (by decide)) (q1.2.2 43 (by decide) (by decide)) (q1.2.2 44 (by decide) (by decide))
  have c35 := (k1' 35 (by decide) (by decide) (by decide) (by decide)).trans h35
  have c36 := (k1' 36 (by decide) (by decide) (by decide) (by decide)).trans h36
  have c37 := (k1' 37 (by decide) (by decide) (by decide) (by decide)).trans h37
  have c38 := k1' 38 (by decide) (by decide) (by decide) (by decide)
  have c39 := k1' 39 (by decide) (by decide) (by decide) (by decide)
  have hfn : fn_Mo_request_238 (some (z + 27)) (me z D t u) = fn_Mo_request_254 (some (z + 27)) (me z D t u1) := by
    unfold fn_Mo_request_238
    rw [mo_gi_33, (hH.1 hv).1, Option.bind_some, if_pos rfl]
    simp only [mo_gi_35, h35, Option.bind_some, mo_ob, r1]
  rw [hfn]
  unfold fn_Mo_request_254
  by_cases c : 100 ≤ (gF ρ (EF B (some m) 1) hd B nf 0 v0).1
  · have e : k5 nf P B ρ mp hd v0 (u.1 38) ps hs L0 m (u.1 39) = ((gF ρ (EF B (some m) 1) hd B nf 0 v0).1, some m, none, u.1 38, u.1 39, ps, hs, L0 ++ (gF ρ (EF B (some m) 1) hd B nf 0 v0).2) := by unfold k5; rw [if_pos c]
    rw [e]
    refine ⟨u1, q1.uy, ?_, hRM1, n1, c35, ⟨c36, c37⟩, c38, c39, (H1.2 c).2⟩
    rw [mo_gi_33, (H1.2 c).1, Option.bind_some, if_neg e10]
  · have e : k5 nf P B ρ mp hd v0 (u.1 38) ps hs L0 m (u.1 39) = (SI mp B m (ag B P ps m), some m, ag B P ps m, u.1 38, u.1 39, ps, hs, L0 ++ (gF ρ (EF B (some m) 1) hd B nf 0 v0).2) := by unfold k5; rw [if_neg c]
    rw [e]
    obtain ⟨hMM1, -, -, -, hmp1⟩ := hB.uy q1.uy
    obtain ⟨u2, q2, r2, s2, R2⟩ := ms_invoke (z := z) (D := D) (t := t) (u := u1) (mp := mp) hn hMM1.2.2.2.2.1 hkc h12 hm (hmr m hm) (hMM1.2.2.2.2.2 11 (by decide)) (hMM1.2.2.2.2.2 13 (by decide)) hmp1 hRM1.1 hlen hRM1.2.1 hin c35
    have j : ∀ k, k ≠ 32 → k ≠ 33 → k ≠ 36 → k ≠ 37 → u2.1 k = u1.1 k := q2.1
    refine ⟨u2, q1.uy.trans q2.uy, ?_, hRM1.of (j 40 (by decide) (by decide) (by decide) (by decide)) (j 42 (by decide) (by decide) (by decide) (by decide)) (by rw [q2.2]) (by rw [q2.2]) (by rw [q2.2]), n1.of (j 45 (by decide) (by decide) (by decide) (by decide)) (by rw [q2.2]), (j 35 (by decide) (by decide) (by decide) (by decide)).trans c35, ?_, (j 38 (by decide) (by decide) (by decide) (by decide)).trans c38, (j 39 (by decide) (by decide) (by decide) (by decide)).trans c39, s2⟩
    · rw [mo_gi_33, (H1.1 c).1, Option.bind_some, if_pos rfl]
      simp only [mo_ob, Option.bind_some, r2]
    · show oC u2 (ag B P ps m)
      cases ha : ag B P ps m with
      | none =>
        rw [ha] at R2
        exact ⟨R2.1.trans c36, R2.2.trans c37⟩
      | some a =>
        rw [ha] at R2
        exact R2
/-- it is over -/
theorem ms_over (h33 : u.1 33 = 1) : fn_Mo_request_238 (some (z + 27)) (me z D t u) = fn_Mo_request_265 (some (z + 27)) (me z D t u) := by
  unfold fn_Mo_request_238
  rw [mo_gi_33, h33, Option.bind_some, if_neg e10]
  unfold fn_Mo_request_254
  rw [mo_gi_33, h33, Option.bind_some, if_neg e10]
end
