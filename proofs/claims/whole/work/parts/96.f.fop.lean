theorem i_le_cases {x y : Int32} (h : x ≤ y) : x < y ∨ x = y := by
  by_cases e : x.toInt = y.toInt
  · exact Or.inr (Int32.toInt_inj.mp e)
  · left
    rw [Int32.lt_iff_toInt_lt]
    have := Int32.le_iff_toInt_le.mp h
    omega
theorem i_le_trans {x y w : Int32} (h : x ≤ y) (h' : y ≤ w) : x ≤ w := by
  rw [Int32.le_iff_toInt_le] at *
  omega
theorem i_lt_le {x y : Int32} (h : x < y) : x ≤ y := by
  rw [Int32.le_iff_toInt_le]
  rw [Int32.lt_iff_toInt_lt] at h
  omega
theorem i_le_rfl {x : Int32} : x ≤ x := Int32.le_refl x
theorem cs_finit {z : Nat} {D : gk_M} {t : sd_S} {u : mo_S} (h : z + 61 ≤ D.2) (x1 x2 x3 x4 x5 : Int32) : fn_Filter_init (some D.2) x1 x2 x3 x4 x5 (me z (gk_nw D (.inr (6, df_Filter))) t u) = some (me z (gk_nw D (.inr (6, [.int x1, .int x2, .int x3, .int x4, .int x5]))) t u) := by
  show fn_Filter_init (some D.2) x1 x2 x3 x4 x5 (me z (oD (D.1, D.2 + 1) D.2 6 [.int 0, .int 0, .int 0, .int 0, .int 0]) t u) = some (me z (oD (D.1, D.2 + 1) D.2 6 [.int x1, .int x2, .int x3, .int x4, .int x5]) t u)
  unfold fn_Filter_init fn_Record_init
  rw [Option.bind_some, Option.bind_some, Option.bind_some]
  rw [od_pf (fs' := [.int x1, .int 0, .int 0, .int 0, .int 0]) h (by show 0 < 5; decide) rfl, Option.bind_some]
  rw [od_pf (fs' := [.int x1, .int x2, .int 0, .int 0, .int 0]) h (by show 1 < 5; decide) rfl, Option.bind_some]
  rw [od_pf (fs' := [.int x1, .int x2, .int x3, .int 0, .int 0]) h (by show 2 < 5; decide) rfl, Option.bind_some]
  rw [od_pf (fs' := [.int x1, .int x2, .int x3, .int x4, .int 0]) h (by show 3 < 5; decide) rfl, Option.bind_some]
  rw [od_pf (fs' := [.int x1, .int x2, .int x3, .int x4, .int x5]) h (by show 4 < 5; decide) rfl, Option.bind_some]
theorem cs_104 {z : Nat} {D : gk_M} {t : sd_S} {u : mo_S} {n k j d : Nat} (h : t.1 4 = nI n) (hn : n < 8) (hk : k ≤ n) (hj : j ≤ n) (hv : (gk_ob D 6 (some d)).isSome = true) (hd : z + 61 ≤ d) : fn_FilterChain_add_104 (some (z + 7)) (some d) (nI k) (nI j) (me z D t u) = some (nI n + 1 - 1, me z D (upd t.1 4 (nI n + 1), up2 (up2 t.2.1 9 k (nI n)) 10 j (nI n), up2r t.2.2 8 n (some d)) u) := by
  have hv' : ∀ t : sd_S, (some d : Option Nat) = none ∨ (gk_ob (me z D t u) 6 (some d)).isSome = true := fun t => Or.inr (by rw [dy_ob hd]; exact hv)
  simp only [fn_FilterChain_add_104, sd_gr_7_1, sd_gr_7_2, sd_gr_7_0, sd_gi_4, h, Option.bind_some, sd_is_9 (j := k) (by omega), sd_is_10 (j := j) (by omega), sd_sr_8 (j := n) (by omega) (hv' _), sd_pf_4, nar_int, pk_us]
set_option maxHeartbeats 2000000 in
theorem op_filter (z : Nat) (x1 x2 x3 x4 x5 : Int32) : op_ok z (Inv z) (fn_SD_filter (some z) x1 x2 x3 x4 x5) (fn_Mo_filter (some (z + 27)) x1 x2 x3 x4 x5) := by
  intro D t u hI
  obtain ⟨h0, hbuf, hres, hm, hl, hf0, hmap, hacc, hout⟩ := hI
  obtain ⟨n, hn, f1, f2, f3, ⟨ρ, r1, r2, r3⟩, ⟨σ, s1, s2, s3⟩⟩ := id hf0
  have ec := cs_filter (z := z) (D := D) (u := u) f1 hn x1 x2 x3 x4 x5
  have em := fun (D : gk_M) (t : sd_S) => ms_filter (z := z) (D := D) (t := t) f2 hn x1 x2 x3 x4 x5
  cases hc : fcnd n x1 x2 x3 x5 with
  | false =>
    rw [hc, b2_f] at ec
    refine ⟨-1, D, t, u, ?_, ?_, h0, hbuf, hres, hm, hl, hf0, hmap, hacc, hout⟩
    · rw [ec]; simp only [fn_SD_filter_61, if_true]
    · rw [em, hc, b2_f]; simp only [fn_Mo_filter_65, if_true]
  | true =>
    rw [hc, b2_t] at ec
    have hc' := hc
    simp only [fcnd, Bool.and_eq_true, decide_eq_true_eq] at hc
    obtain ⟨hlt, hw1, hw2, hw3, hw5⟩ := hc
    have hz := h0.1
    have hq := kq_nw h0 (.inr (6, [.int x1, .int x2, .int x3, .int x4, .int x5]))
    have hob : gk_ob (gk_nw D (.inr (6, [.int x1, .int x2, .int x3, .int x4, .int x5]))) 6 (some D.2) = some [.int x1, .int x2, .int x3, .int x4, .int x5] := gk_ob_of (va_up_self _ _ _)
    have hinit := cs_finit (t := t) (u := u) hz x1 x2 x3 x4 x5
    generalize hD' : gk_nw D (.inr (6, [.int x1, .int x2, .int x3, .int x4, .int x5])) = D' at hq hob hinit
    have hf : ∀ f, f < n → ∃ o, t.2.2 8 f = some o ∧ z + 61 ≤ o ∧ gk_gi D' 6 0 (some o) = some (u.2.2 18 f) := by
      intro f hf
      obtain ⟨o, g1, g2, g3, -⟩ := f3 f hf
      exact ⟨o, g1, g2, ob_gi (kq_ob hq.1 g3) rfl⟩
    have hx : gk_gi D' 6 0 (some D.2) = some x1 := ob_gi hob rfl
    obtain ⟨k, A, p1, p2, p3, p4, p5, p6⟩ := ins_r (u := u) hf hz hx hlt r1 n (Nat.le_refl _) (t.2.1 9) (fun _ _ => rfl) (fun i a b => absurd a (by omega)) (fun i a b => absurd a (by omega)) gk_fuel (by unfold gk_fuel; omega)
    obtain ⟨j, C, q1, q2, q3, q4, q5, q6⟩ := ins_f (t := (t.1, setA t.2.1 9 A, t.2.2)) (u := u) (x2 := nI k) hf hz hx hlt s1 n (Nat.le_refl _) (t.2.1 10) (fun _ _ => rfl) (fun i a b => absurd a (by omega)) (fun i a b => absurd a (by omega)) gk_fuel (by unfold gk_fuel; omega)
    rw [setA_id] at p6
    have eid : setA (setA t.2.1 9 A) 10 (t.2.1 10) = setA t.2.1 9 A := setA_id (setA t.2.1 9 A) 10
    have e1 : fn_SD_filter (some z) x1 x2 x3 x4 x5 (me z D t u) = some (nI n + 1 - 1, me z D' (upd t.1 4 (nI n + 1), up2 (up2 (setA (setA t.2.1 9 A) 10 C) 9 k (nI n)) 10 j (nI n), up2r t.2.2 8 n (some D.2)) u) := by
      have ea : fn_FilterChain_add (some (z + 7)) (some D.2) (me z D' t u) = some (nI n + 1 - 1, me z D' (upd t.1 4 (nI n + 1), up2 (up2 (setA (setA t.2.1 9 A) 10 C) 9 k (nI n)) 10 j (nI n), up2r t.2.2 8 n (some D.2)) u) := by
        simp only [fn_FilterChain_add, sd_gi_4, f1, Option.bind_some, fn_FilterChain_add_5]
        rw [p6]
        simp only [fn_FilterChain_add_52, sd_gi_4, f1, Option.bind_some, fn_FilterChain_add_57]
        rw [eid] at q6
        rw [q6]
        exact cs_104 (t := (t.1, setA (setA t.2.1 9 A) 10 C, t.2.2)) f1 hlt p1 q1 (by rw [hob]; rfl) hz
      rw [ec]
      simp only [fn_SD_filter_61, if_neg e10, sd_gr_0_2, Option.bind_some, me_nw hz, me_2, hinit, sd_ob_7, ea]
    refine ⟨nI n + 1 - 1, D', (upd t.1 4 (nI n + 1), up2 (up2 (setA (setA t.2.1 9 A) 10 C) 9 k (nI n)) 10 j (nI n), up2r t.2.2 8 n (some D.2)), (upd u.1 17 (nI n + 1), u.2.1, up2 (up2 (up2 (up2 (up2 u.2.2 18 n x1) 19 n x2) 20 n x3) 21 n x4) 22 n x5), e1, ?_, hq.2, hbuf, kp_res hq.1.kp hres, kq_met hq.1 hm, kp_loc hq.1.kp hl, ?_, hmap, hacc, hout⟩
    · rw [em, hc', b2_t]
      simp only [fn_Mo_filter_65, if_neg e10, mo_gr_18, mo_gr_19, mo_gr_20, mo_gr_21, mo_gr_22, mo_gi_17, f2, Option.bind_some, mo_is_18 hlt, mo_is_19 hlt, mo_is_20 hlt, mo_is_21 hlt, mo_is_22 hlt, mo_pf_17, nar_int, pk_us]
    · show I_fil z D' (nI n + 1) (up2r t.2.2 8 n (some D.2) 8) (upd A k (nI n)) (upd C j (nI n)) (nI n + 1) (up2 (up2 (up2 (up2 (up2 u.2.2 18 n x1) 19 n x2) 20 n x3) 21 n x4) 22 n x5)
      rw [up2r_self, nI_1]
      refine ⟨n + 1, by omega, rfl, rfl, fun f hf => ?_, ?_, ?_⟩
      · show ∃ o, va_up (t.2.2 8) n (some D.2) f = some o ∧ z + 61 ≤ o ∧ gk_ob D' 6 (some o) = some [.int (upd (u.2.2 18) n x1 f), .int (upd (u.2.2 19) n x2 f), .int (upd (u.2.2 20) n x3 f), .int (upd (u.2.2 21) n x4 f), .int (upd (u.2.2 22) n x5 f)] ∧ wi (upd (u.2.2 18) n x1 f) 0 99 = true ∧ wi (upd (u.2.2 19) n x2 f) 0 3 = true ∧ wi (upd (u.2.2 20) n x3 f) 0 2 = true ∧ (wi (upd (u.2.2 22) n x5 f) 0 5 || wi (upd (u.2.2 22) n x5 f) 100 599) = true
        by_cases hfn : f = n
        · subst hfn
          rw [va_up_self, pk_us, pk_us, pk_us, pk_us, pk_us]
          exact ⟨D.2, rfl, hz, hob, hw1, hw2, hw3, hw5⟩
        · rw [va_up_ne _ _ hfn, pk_un hfn, pk_un hfn, pk_un hfn, pk_un hfn, pk_un hfn]
          obtain ⟨o, g1, g2, g3, g4⟩ := f3 f (by omega)
          exact ⟨o, g1, g2, kq_ob hq.1 g3, g4⟩
      · refine srt_ins (lt := fun i j => u.2.2 18 i < u.2.2 18 j ∨ (u.2.2 18 i = u.2.2 18 j ∧ i < j)) r1 r2 r3 p1 (fun i hi => ?_) (pk_us ..) (fun i hi hi' => ?_) (fun a b ha hb hab => ?_) (fun i hi => ?_) (fun i hi hi' => ?_)
        · rw [pk_un (by omega), p2 i hi]
        · rw [pk_un (by omega), p3 i hi hi']
        · show upd (u.2.2 18) n x1 a < upd (u.2.2 18) n x1 b ∨ (upd (u.2.2 18) n x1 a = upd (u.2.2 18) n x1 b ∧ a < b)
          rw [pk_un (by omega), pk_un (by omega)]
          exact hab
        · show upd (u.2.2 18) n x1 (ρ i) < upd (u.2.2 18) n x1 n ∨ (upd (u.2.2 18) n x1 (ρ i) = upd (u.2.2 18) n x1 n ∧ ρ i < n)
          have hρ := (r1 i (by omega)).2
          rw [pk_un (by omega), pk_us]
          have hle : u.2.2 18 (ρ i) ≤ x1 := by
            by_cases e : i = k - 1
            · rw [e]; exact p5 (by omega)
            · refine i_le_trans ?_ (p5 (by omega))
              rcases r2 i (k - 1) (by omega) (by omega) with h | h
              · exact i_lt_le h
              · rw [h.1]; exact i_le_rfl
          rcases i_le_cases hle with h | h
          · exact Or.inl h
          · exact Or.inr ⟨h, hρ⟩
        · show upd (u.2.2 18) n x1 n < upd (u.2.2 18) n x1 (ρ i) ∨ (upd (u.2.2 18) n x1 n = upd (u.2.2 18) n x1 (ρ i) ∧ n < ρ i)
          have hρ := (r1 i (by omega)).2
          rw [pk_us, pk_un (by omega)]
          exact Or.inl (p4 i hi hi')
      · refine srt_ins (lt := fun i j => u.2.2 18 j < u.2.2 18 i ∨ (u.2.2 18 i = u.2.2 18 j ∧ i < j)) s1 s2 s3 q1 (fun i hi => ?_) (pk_us ..) (fun i hi hi' => ?_) (fun a b ha hb hab => ?_) (fun i hi => ?_) (fun i hi hi' => ?_)
        · rw [pk_un (by omega), q2 i hi]
        · rw [pk_un (by omega), q3 i hi hi']
        · show upd (u.2.2 18) n x1 b < upd (u.2.2 18) n x1 a ∨ (upd (u.2.2 18) n x1 a = upd (u.2.2 18) n x1 b ∧ a < b)
          rw [pk_un (by omega), pk_un (by omega)]
          exact hab
        · show upd (u.2.2 18) n x1 n < upd (u.2.2 18) n x1 (σ i) ∨ (upd (u.2.2 18) n x1 (σ i) = upd (u.2.2 18) n x1 n ∧ σ i < n)
          have hρ := (s1 i (by omega)).2
          rw [pk_us, pk_un (by omega)]
          have hle : x1 ≤ u.2.2 18 (σ i) := by
            by_cases e : i = j - 1
            · rw [e]; exact q5 (by omega)
            · refine i_le_trans (q5 (by omega)) ?_
              rcases s2 i (j - 1) (by omega) (by omega) with h | h
              · exact i_lt_le h
              · rw [h.1]; exact i_le_rfl
          rcases i_le_cases hle with h | h
          · exact Or.inl h
          · exact Or.inr ⟨h.symm, hρ⟩
        · show upd (u.2.2 18) n x1 (σ i) < upd (u.2.2 18) n x1 n ∨ (upd (u.2.2 18) n x1 n = upd (u.2.2 18) n x1 (σ i) ∧ n < σ i)
          have hρ := (s1 i (by omega)).2
          rw [pk_us, pk_un (by omega)]
          exact Or.inl (q4 i hi hi')
