def ux (u : mo_S) (x : Int32) : mo_S := (upd (upd u.1 33 1) 32 x, u.2)
theorem ux_uy (u : mo_S) (x : Int32) : uy u (ux u x) := ⟨fun k hk => (pk_un (by omega)).trans (pk_un (by omega)), fun _ _ => rfl⟩
theorem ux_k (u : mo_S) (x : Int32) {k : Nat} (h : k ≠ 32) (h' : k ≠ 33) : (ux u x).1 k = u.1 k := (pk_un h).trans (pk_un h')
theorem ux_32 (u : mo_S) (x : Int32) : (ux u x).1 32 = x := pk_us (f := upd u.1 33 1) (k := 32)
theorem ux_33 (u : mo_S) (x : Int32) : (ux u x).1 33 = 1 := (pk_un (f := upd u.1 33 1) (k := 32) (j := 33) (x := x) (by decide)).trans (pk_us (f := u.1) (k := 33))
section
variable {z : Nat} {D : gk_M} {rn mn ln n nf na : Nat} {P : Nat → Int32} {P4 P5 P6 P8 : Nat → Option Nat} {B : Nat → Nat → Int32} {t : sd_S} {u : mo_S} {ρ σ : Nat → Nat} {ty : Nat → Int32} {qs : Nat → Nat} {mp : Nat → Int32} {mo : Option Nat} {hd : Int32}
theorem ms_24 (hmp : ∀ k, k < 16 → u.2.2 24 k = mp k ∧ (mp k = 0 ∨ wi (mp k) 100 599 = true)) {j : Nat} (h0 : 0 < j) (hj : j < 16) : fn_Mo_matching_24 (some (z + 27)) (nI j) (me z D t u) = some (me z D t (ux u (stt mp (nI j) 4 j))) := by
  have hra := ms_raise (z := z) (D := D) (t := t) (u := u) hmp hj
  unfold fn_Mo_matching_24
  rw [if_neg (nI_nle h0 (by omega))]
  simp only [mo_ob, Option.bind_some, hra]
  unfold fn_Mo_matching_33
  rw [if_pos (nI_pos' (by omega))]
  rfl
theorem ms_14 (hmp : ∀ k, k < 16 → u.2.2 24 k = mp k ∧ (mp k = 0 ∨ wi (mp k) 100 599 = true)) (x2 : Int32) : fn_Mo_matching_14 (some (z + 27)) x2 8 (me z D t u) = some (me z D t (ux u (stt mp 8 4 8))) := by
  have h24 := ms_24 (z := z) (D := D) (t := t) (u := u) hmp (j := 8) (by omega) (by omega)
  unfold fn_Mo_matching_14
  rw [if_neg (by decide)]
  exact h24
/-- what was told once is told when it is over -/
theorem OU_ux {r : RS} (h : RM u r.2.2.2.2.2.1 r.2.2.2.2.2.2.1) (h2 : RQ u r.2.2.2.2.2.2.2) (h3 : u.1 35 = oI r.2.1) (h4 : oC u r.2.2.1) (h5 : u.1 38 = r.2.2.2.1) (h6 : u.1 39 = r.2.2.2.2.1) : OU (ux u r.1) r := by
  refine ⟨h.of (ux_k u _ (by decide) (by decide)) (ux_k u _ (by decide) (by decide)) rfl rfl rfl, h2.of (ux_k u _ (by decide) (by decide)) rfl, (ux_k u _ (by decide) (by decide)).trans h3, ?_, (ux_k u _ (by decide) (by decide)).trans h5, (ux_k u _ (by decide) (by decide)).trans h6, ux_32 u _⟩
  cases hr : r.2.2.1 with
  | none =>
    rw [hr] at h4
    exact ⟨(ux_k u _ (by decide) (by decide)).trans h4.1, (ux_k u _ (by decide) (by decide)).trans h4.2⟩
  | some a =>
    rw [hr] at h4
    exact ⟨(ux_k u _ (by decide) (by decide)).trans h4.1, (ux_k u _ (by decide) (by decide)).trans h4.2⟩
theorem ms_k3 (hB : MB rn mn ln n nf na P B ty qs mp hd u) (hn8 : nf ≤ 8) (h12 : mn ≤ 12) (hn : n ≤ 24) (hkc : ∀ i, i < n → kc (P i) = true) (hO : ORD nf ρ (qq B 1)) (hmr : ∀ m, m < mn → mrg rn B m) (hA : AL na ty qs) {C : Nat → Bool} (hC : ∀ m, m < mn → u.2.2 54 m = b2 (C m)) {ps : List (Nat × Nat)} {hs : List Int32} {L0 : List Nat} (hRM : RM u ps hs) (hlen : ps.length ≤ 104) (hin : ∀ g ∈ ps, g.1 ≤ g.2 ∧ g.2 ≤ n) (hRQ : RQ u L0) (h35 : u.1 35 = -1) (h36 : u.1 36 = 0) (h37 : u.1 37 = 0) (h39 : u.1 39 = -1) {v0 x2 : Int32} (hx2 : isTy x2 = true) (hv : ¬ 100 ≤ v0) (hH : HV u v0) (hL : ∀ m, L0.length + (gF ρ (EF B (some m) 1) hd B nf 0 v0).2.length ≤ 8) : ∃ u', uy u u' ∧ ((fn_Mo_matching_14 (some (z + 27)) x2 0 (me z D t u)).bind fun w235 => fn_Mo_request_238 (some (z + 27)) w235) = fn_Mo_request_265 (some (z + 27)) (me z D t u') ∧ OU u' (k3 nf P B ρ mp hd v0 (md (av B C mn)) ps hs L0 (s3 mn na B ty qs C v0 x2)) := by
  obtain ⟨hMM, hFM, hAM, h31, hmp⟩ := id hB
  obtain ⟨o33, o30⟩ := hH.1 hv
  obtain ⟨u1, q1, r1, s38, s35⟩ := ms_three (z := z) (D := D) (t := t) (u := u) hMM h12 hmr hx2 o30 hA hAM hC h35
  have hB1 := hB.uy q1.uy
  have j : ∀ k, k ≠ 35 → k ≠ 38 → k ≠ 39 → k ≠ 56 → u1.1 k = u.1 k := q1.1
  have hRM1 : RM u1 ps hs := hRM.of (j 40 (by decide) (by decide) (by decide) (by decide)) (j 42 (by decide) (by decide) (by decide) (by decide)) (q1.2 41 (by decide)) (q1.2 43 (by decide)) (q1.2 44 (by decide))
  have hRQ1 : RQ u1 L0 := hRQ.of (j 45 (by decide) (by decide) (by decide) (by decide)) (q1.2 46 (by decide))
  have c36 := (j 36 (by decide) (by decide) (by decide) (by decide)).trans h36
  have c37 := (j 37 (by decide) (by decide) (by decide) (by decide)).trans h37
  have c33 := (j 33 (by decide) (by decide) (by decide) (by decide)).trans o33
  have c30 := (j 30 (by decide) (by decide) (by decide) (by decide)).trans o30
  have hmp1 := hB1.2.2.2.2
  have h14 : fn_Mo_matching_14 (some (z + 27)) x2 0 (me z D t u) = fn_Mo_matching_24 (some (z + 27)) (s3 mn na B ty qs C v0 x2).1 (me z D t u1) := by
    unfold fn_Mo_matching_14
    rw [if_pos rfl]
    simp only [mo_ob, Option.bind_some, r1]
  rw [h14]
  rcases s3_c (C := C) (v := v0) (x := x2) hA hmr with hs3 | ⟨i, j1, j2, hs3⟩ | ⟨p, p1, hs3⟩
  · rw [hs3] at s35 ⊢
    obtain ⟨a35, a39⟩ := s35.1 rfl
    have h24 : fn_Mo_matching_24 (some (z + 27)) (-1) (me z D t u1) = some (me z D t (upd (upd u1.1 32 204) 33 1, u1.2)) := by
      unfold fn_Mo_matching_24
      rw [if_pos (by decide)]
      unfold fn_Mo_matching_33
      rw [if_neg (by decide)]
      simp only [mo_pf_32, Option.bind_some, ev_z1, mo_pf_33]
    have hsw : ((upd (upd u1.1 32 204) 33 1, u1.2) : mo_S) = ux u1 204 := by
      unfold ux
      congr 1
      funext k
      by_cases e : k = 32
      · subst e; rw [pk_un (by decide), pk_us, pk_us]
      · by_cases e' : k = 33
        · subst e'; rw [pk_us, pk_un (by decide), pk_us]
        · rw [pk_un e', pk_un e, pk_un e, pk_un e']
    have hk : k3 nf P B ρ mp hd v0 (md (av B C mn)) ps hs L0 (-1, none) = (204, none, none, md (av B C mn), -1, ps, hs, L0) := rfl
    rw [hk]
    refine ⟨ux u1 204, q1.uy.trans (ux_uy u1 204), ?_, OU_ux (r := (204, none, none, md (av B C mn), -1, ps, hs, L0)) hRM1 hRQ1 a35 ⟨c36, c37⟩ s38 (a39.trans h39)⟩
    show (fn_Mo_matching_24 (some (z + 27)) (-1) (me z D t u1)).bind _ = _
    rw [h24, Option.bind_some, hsw]
    exact ms_over (ux_33 u1 204)
  · rw [hs3] at s35 ⊢
    obtain ⟨a35, a39⟩ := s35.1 rfl
    have hk : k3 nf P B ρ mp hd v0 (md (av B C mn)) ps hs L0 (nI i, none) = (stt mp (nI i) 4 i, none, none, md (av B C mn), -1, ps, hs, L0) := by
      unfold k3
      simp only [if_neg (m1_ne i (show i < 2 ^ 31 by omega)), nI_clamp (show i < 2 ^ 31 by omega)]
    rw [hk]
    refine ⟨ux u1 (stt mp (nI i) 4 i), q1.uy.trans (ux_uy u1 _), ?_, OU_ux (r := (stt mp (nI i) 4 i, none, none, md (av B C mn), -1, ps, hs, L0)) hRM1 hRQ1 a35 ⟨c36, c37⟩ s38 (a39.trans h39)⟩
    show (fn_Mo_matching_24 (some (z + 27)) (nI i) (me z D t u1)).bind _ = _
    rw [ms_24 hmp1 (show 0 < i by omega) (by omega), Option.bind_some]
    exact ms_over (ux_33 u1 _)
  · rw [hs3] at s35 ⊢
    obtain ⟨a35, a39⟩ := s35.2 p rfl
    have h24 : fn_Mo_matching_24 (some (z + 27)) 0 (me z D t u1) = some (me z D t u1) := by
      unfold fn_Mo_matching_24
      rw [if_pos (Int32.le_refl _)]
      unfold fn_Mo_matching_33
      rw [if_pos (Int32.le_refl _)]
    obtain ⟨u2, g1, g2, g3⟩ := ms_k5 (z := z) (D := D) (t := t) (u := u1) hB1 hn8 h12 hn hkc hO hmr p1 hRM1 hlen hin hRQ1 a35 c36 c37 hv ⟨fun _ => ⟨c33, c30⟩, fun q => absurd q hv⟩ (hL p.1)
    rw [s38, a39] at g3
    refine ⟨u2, q1.uy.trans g1, ?_, g3⟩
    show (fn_Mo_matching_24 (some (z + 27)) 0 (me z D t u1)).bind _ = _
    rw [h24, Option.bind_some]
    exact g2
theorem ms_k1 (h : ST z D rn mn ln P4 P5 P6 B) (hB : MB rn mn ln n nf na P B ty qs mp hd u) (hn8 : nf ≤ 8) (hn : n ≤ 24) (hkc : ∀ i, i < n → kc (P i) = true) (hO : ORD nf ρ (qq B 1)) (hA : AL na ty qs) {L0 : List Nat} (hRQ : RQ u L0) (h35 : u.1 35 = -1) (h36 : u.1 36 = 0) (h37 : u.1 37 = 0) (h38 : u.1 38 = 0) (h39 : u.1 39 = -1) (h40 : u.1 40 = 0) (h42 : u.1 42 = 0) {v0 x2 : Int32} (hx2 : isTy x2 = true) (hv : ¬ 100 ≤ v0) (hH : HV u v0) (hL : ∀ m, L0.length + (gF ρ (EF B (some m) 1) hd B nf 0 v0).2.length ≤ 8) (hOB : OB n mn (k1 rn mn ln n nf na P B ρ ty qs mp hd x2 v0 L0)) : ∃ u', uy u u' ∧ ((fn_Mo_matching (some (z + 27)) x2 (me z D t u)).bind fun w235 => fn_Mo_request_238 (some (z + 27)) w235) = fn_Mo_request_265 (some (z + 27)) (me z D t u') ∧ OU u' (k1 rn mn ln n nf na P B ρ ty qs mp hd x2 v0 L0) := by
  obtain ⟨hMM, hFM, hAM, h31, hmp⟩ := id hB
  have hG := gg_of h
  have h12 := h.2.1
  have hmr : ∀ m, m < mn → mrg rn B m := fun m hm => by
    obtain ⟨o', tr', -, -, -, -, -, -, -, -, -, -, -, -, hm'⟩ := st_met h hm
    exact hm'
  obtain ⟨h6, -, h8, hgr, hgm, -⟩ := id hG
  obtain ⟨u1, q1, a40, a41, r1, rn1, rs1⟩ := ms_stageOne (z := z) (D := D) (t := t) hMM h6 h12 h8 hgr (fun m hm => (hgm m hm).1) hn h42
  have hB1 := hB.uy q1.uy
  have j : ∀ k, k ≠ 34 → k ≠ 40 → k ≠ 42 → k ≠ 47 → k ≠ 50 → u1.1 k = u.1 k := q1.1
  have hRQ1 : RQ u1 L0 := hRQ.of (j 45 (by decide) (by decide) (by decide) (by decide) (by decide)) (q1.2.2 46 (by decide) (by decide) (by decide) (by decide) (by decide) (by decide) (by decide) (by decide) (by decide))
  have c40 := a40.trans h40
  obtain ⟨o33, o30⟩ := hH.1 hv
  cases hb : bR mn ln n P B rn with
  | none =>
    have hk : k1 rn mn ln n nf na P B ρ ty qs mp hd x2 v0 L0 = (stt mp 8 4 8, none, none, 0, -1, [], [], L0) := by unfold k1; rw [hb]
    rw [hk]
    rw [hb] at r1
    refine ⟨ux u1 (stt mp 8 4 8), q1.uy.trans (ux_uy u1 _), ?_, OU_ux (r := (stt mp 8 4 8, none, none, 0, -1, [], [], L0)) ⟨rn1 hb, fun k hk => absurd hk (by simp), c40, fun k hk => absurd hk (by simp)⟩ hRQ1 ((j 35 (by decide) (by decide) (by decide) (by decide) (by decide)).trans h35) ⟨(j 36 (by decide) (by decide) (by decide) (by decide) (by decide)).trans h36, (j 37 (by decide) (by decide) (by decide) (by decide) (by decide)).trans h37⟩ ((j 38 (by decide) (by decide) (by decide) (by decide) (by decide)).trans h38) ((j 39 (by decide) (by decide) (by decide) (by decide) (by decide)).trans h39)⟩
    have r1 : fn_Mo_stageOne (some (z + 27)) (me z D t u) = some (8, me z D t u1) := r1
    have hm : fn_Mo_matching (some (z + 27)) x2 (me z D t u) = some (me z D t (ux u1 (stt mp 8 4 8))) := by
      unfold fn_Mo_matching
      simp only [mo_ob, Option.bind_some, r1]
      rw [if_neg (by decide)]
      exact ms_14 hB1.2.2.2.2 x2
    rw [hm, Option.bind_some]
    exact ms_over (ux_33 u1 _)
  | some b =>
    rw [hb] at r1
    have r1 : fn_Mo_stageOne (some (z + 27)) (me z D t u) = some (0, me z D t u1) := r1
    obtain ⟨s34, s53, s42, sg⟩ := rs1 b hb
    have hbo := hv_ok hb
    have hok := hbo.1
    unfold okR at hok
    simp only [Bool.and_eq_true, decide_eq_true_eq] at hok
    obtain ⟨w1, w2, w3, w4⟩ := qw_b (P := P) (hgr b hbo.2) hok.1 hn hok.2.1
    have hRM1 : RM u1 (qw n P (tl B b) 0).1 [] := ⟨s42, sg, c40, fun k hk => absurd hk (by simp)⟩
    obtain ⟨u2, q2, r2, p2, p3⟩ := ms_two (z := z) (D := D) (t := t) hG hn 25 0 gk_fuel (qw n P (tl B b) 0).2 (S1 rn B b) (qw n P (tl B b) 0).1 [] u1 hB1.1 (by omega) (by omega) (by unfold gk_fuel; omega) w2 s34 (fun r hr => by rw [s53 r (by omega), decide_eq_true hr, Bool.true_and]) hRM1 (by omega) (by simp only [List.length_nil]; omega)
    have hk : k1 rn mn ln n nf na P B ρ ty qs mp hd x2 v0 L0 = k2 mn nf na P B ρ ty qs mp hd x2 v0 L0 (st2 mn ln n P B 25 (qw n P (tl B b) 0).2 (S1 rn B b) (qw n P (tl B b) 0).1 []) := by unfold k1; rw [hb]
    rw [hk] at hOB ⊢
    generalize st2 mn ln n P B 25 (qw n P (tl B b) 0).2 (S1 rn B b) (qw n P (tl B b) 0).1 [] = R at r2 p2 p3 hOB ⊢
    have hB2 := hB1.uy q2.uy
    have j2 : ∀ k, k ≠ 34 → k ≠ 40 → k ≠ 42 → k ≠ 47 → k ≠ 50 → u2.1 k = u.1 k := fun k a b c d e => (q2.1 k a b c d e).trans (j k a b c d e)
    have hRQ2 : RQ u2 L0 := hRQ1.of (q2.1 45 (by decide) (by decide) (by decide) (by decide) (by decide)) (q2.2.2 46 (by decide) (by decide) (by decide) (by decide) (by decide) (by decide) (by decide) (by decide) (by decide))
    have b35 := (j2 35 (by decide) (by decide) (by decide) (by decide) (by decide)).trans h35
    have b36 := (j2 36 (by decide) (by decide) (by decide) (by decide) (by decide)).trans h36
    have b37 := (j2 37 (by decide) (by decide) (by decide) (by decide) (by decide)).trans h37
    have b38 := (j2 38 (by decide) (by decide) (by decide) (by decide) (by decide)).trans h38
    have b39 := (j2 39 (by decide) (by decide) (by decide) (by decide) (by decide)).trans h39
    have hst : fn_Mo_stageTwo (some (z + 27)) (me z D t u1) = some (if R.1.isSome = true then 0 else 8, me z D t u2) := r2
    have hm : fn_Mo_matching (some (z + 27)) x2 (me z D t u) = fn_Mo_matching_14 (some (z + 27)) x2 (if R.1.isSome = true then 0 else 8) (me z D t u2) := by
      unfold fn_Mo_matching
      simp only [mo_ob, Option.bind_some, r1, if_true, hst]
    rw [hm]
    cases hR : R.1 with
    | none =>
      have hk2 : k2 mn nf na P B ρ ty qs mp hd x2 v0 L0 R = (stt mp 8 4 8, none, none, 0, -1, R.2.1, R.2.2, L0) := by unfold k2; rw [hR]
      rw [hk2]
      refine ⟨ux u2 (stt mp 8 4 8), (q1.uy.trans q2.uy).trans (ux_uy u2 _), ?_, OU_ux (r := (stt mp 8 4 8, none, none, 0, -1, R.2.1, R.2.2, L0)) p2 hRQ2 b35 ⟨b36, b37⟩ b38 b39⟩
      show (fn_Mo_matching_14 (some (z + 27)) x2 8 (me z D t u2)).bind _ = _
      rw [ms_14 hB2.2.2.2.2 x2, Option.bind_some]
      exact ms_over (ux_33 u2 _)
    | some C =>
      have hk2 : k2 mn nf na P B ρ ty qs mp hd x2 v0 L0 R = k3 nf P B ρ mp hd v0 (md (av B C mn)) R.2.1 R.2.2 L0 (s3 mn na B ty qs C v0 x2) := by unfold k2; rw [hR]
      rw [hk2] at hOB ⊢
      have hps : (k3 nf P B ρ mp hd v0 (md (av B C mn)) R.2.1 R.2.2 L0 (s3 mn na B ty qs C v0 x2)).2.2.2.2.2.1 = R.2.1 := by
        unfold k3 k5; split
        · split <;> rfl
        · rfl
      obtain ⟨ob1, -, ob3, -⟩ := hOB
      rw [hps] at ob1 ob3
      obtain ⟨u3, g1, g2, g3⟩ := ms_k3 (z := z) (D := D) (t := t) (u := u2) hB2 hn8 h12 hn hkc hO hmr hA (p3 C hR) p2 ob1 ob3 hRQ2 b35 b36 b37 b39 hx2 hv ⟨fun _ => ⟨(j2 33 (by decide) (by decide) (by decide) (by decide) (by decide)).trans o33, (j2 30 (by decide) (by decide) (by decide) (by decide) (by decide)).trans o30⟩, fun q => absurd q hv⟩ hL
      exact ⟨u3, (q1.uy.trans q2.uy).trans g1, g2, g3⟩
theorem ms_steps (h : ST z D rn mn ln P4 P5 P6 B) (hB : MB rn mn ln n nf na P B ty qs mp hd u) (hn8 : nf ≤ 8) (hn : n ≤ 24) (hkc : ∀ i, i < n → kc (P i) = true) (hO : ORD nf ρ (qq B 0)) {q' : Nat → Int} (hS : ORD nf σ q') (hA : AL na ty qs) (hRQ : RQ u []) (h35 : u.1 35 = -1) (h36 : u.1 36 = 0) (h37 : u.1 37 = 0) (h38 : u.1 38 = 0) (h39 : u.1 39 = -1) (h40 : u.1 40 = 0) (h42 : u.1 42 = 0) {x1 x2 : Int32} (hx2 : isTy x2 = true) (hH : HV u x1) (hOB : OB n mn (k0 rn mn ln n nf na P B ρ ty qs mp hd x1 x2)) : ∃ u', uy u u' ∧ ((fn_Mo_filterAll (some (z + 27)) 0 (-1) (me z D t u)).bind fun w223 => (gk_gi w223 12 33 (some (z + 27))).bind fun v227 => if v227 = 0 then ((gk_ob w223 12 (some (z + 27))).bind fun _ => (fn_Mo_matching (some (z + 27)) x2 w223).bind fun w235 => fn_Mo_request_238 (some (z + 27)) w235) else (fn_Mo_request_238 (some (z + 27)) w223)) = fn_Mo_request_265 (some (z + 27)) (me z D t u') ∧ OU u' (k0 rn mn ln n nf na P B ρ ty qs mp hd x1 x2) := by
  obtain ⟨hMM, hFM, hAM, h31, hmp⟩ := id hB
  have hl3 := fun m => len3 (B := B) hn8 hO hS hd x1 (gF ρ (EF B none 0) hd B nf 0 x1).1 none (some m) none
  obtain ⟨u1, q1, r1, H1, n1⟩ := ms_filterA (z := z) (D := D) (t := t) (mo := none) hFM hn8 h.2.1 (fun m' hm' => by cases hm') (K := 0) (by omega) hO h31 hH hRQ (by
    have := hl3 0
    simp only [List.length_nil]
    omega)
  rw [show nI 0 = 0 from rfl, show oI none = -1 from rfl] at r1
  rw [List.nil_append] at n1
  have hB1 := hB.uy q1.uy
  have j : ∀ k, k ≠ 30 → k ≠ 32 → k ≠ 33 → k ≠ 45 → u1.1 k = u.1 k := q1.1
  have b35 := (j 35 (by decide) (by decide) (by decide) (by decide)).trans h35
  have b36 := (j 36 (by decide) (by decide) (by decide) (by decide)).trans h36
  have b37 := (j 37 (by decide) (by decide) (by decide) (by decide)).trans h37
  have b38 := (j 38 (by decide) (by decide) (by decide) (by decide)).trans h38
  have b39 := (j 39 (by decide) (by decide) (by decide) (by decide)).trans h39
  have b40 := (j 40 (by decide) (by decide) (by decide) (by decide)).trans h40
  have b42 := (j 42 (by decide) (by decide) (by decide) (by decide)).trans h42
  simp only [r1, Option.bind_some, mo_gi_33, mo_ob]
  by_cases c : 100 ≤ (gF ρ (EF B none 0) hd B nf 0 x1).1
  · have e : k0 rn mn ln n nf na P B ρ ty qs mp hd x1 x2 = ((gF ρ (EF B none 0) hd B nf 0 x1).1, none, none, 0, -1, [], [], (gF ρ (EF B none 0) hd B nf 0 x1).2) := by unfold k0; rw [if_pos c]
    rw [e]
    obtain ⟨o33, o32⟩ := H1.2 c
    rw [if_neg (by rw [o33]; exact e10)]
    exact ⟨u1, q1.uy, ms_over o33, ⟨b42, fun k hk => absurd hk (by simp), b40, fun k hk => absurd hk (by simp)⟩, n1, b35, ⟨b36, b37⟩, b38, b39, o32⟩
  · have e : k0 rn mn ln n nf na P B ρ ty qs mp hd x1 x2 = k1 rn mn ln n nf na P B ρ ty qs mp hd x2 (gF ρ (EF B none 0) hd B nf 0 x1).1 (gF ρ (EF B none 0) hd B nf 0 x1).2 := by unfold k0; rw [if_neg c]
    rw [e] at hOB ⊢
    obtain ⟨o33, o30⟩ := H1.1 c
    rw [if_pos o33]
    obtain ⟨u2, g1, g2, g3⟩ := ms_k1 (z := z) (D := D) (t := t) (u := u1) h hB1 hn8 hn hkc hO hA n1 b35 b36 b37 b38 b39 b40 b42 hx2 c H1 (fun m => by have := hl3 m; omega) hOB
    exact ⟨u2, q1.uy.trans g1, g2, g3⟩
end
