theorem gk_nk.of {w : Cond} (hk : gk_nk w) {A : Array Value} {U : State} (h : w.before A U = true) : va_Nw w U := by
  rcases hk with ⟨a, i, b, n, d, h', rfl⟩ | ⟨a, i, x, h', rfl⟩ | ⟨C, rfl⟩ | ⟨C, T, rfl⟩
  · exact va_Nw.of rfl h
  · exact va_Nw.of rfl h
  · exact va_AO.of h
  · exact va_Nw.of rfl h
theorem gk_arP {args : Array Value} {s : State} {ty : FieldType} (h : (Cond.arrayClass ty).before args s = true) : ∃ cA : ClassId, ArrOfT s cA ty ∧ s.vm.findClass ("[" ++ ty.toString) = some cA := by
  obtain ⟨c, k, comp, h1, h2, h3⟩ := Cond.arrayClass_spec h
  exact ⟨c, fun N z => ⟨(fun k h => by cases h), k, h2, comp, h3⟩, h1⟩
theorem gk_arR {args : Array Value} {s : State} {C : String} (h : (Cond.arrayOver (.object C)).before args s = true) : ∃ cA : ClassId, ArrOfT s cA (.object C) ∧ va_RA s cA (.object C) := by
  obtain ⟨comp, c, k, h1, h2, h3, h4, h5⟩ := Cond.arrayOver_spec h
  exact ⟨c, fun N z => ⟨(fun k h => by cases h), k, h3, comp, h4⟩, k, comp, h3, h4, h1, h5⟩
theorem gk_known {args : Array Value} {s : State} (hts : ∀ w ∈ lw_tbl, w.before args s = true) (lo : Nat) : ∃ Γ : gk_G, Γ.2.2 = lo ∧ gk_K gk_Y Γ s := by
  have hT : ∀ w ∈ gk_Y.2.2.2, w.before args s = true := fun w hw => hts w (List.mem_filter.mp (show w ∈ lw_tbl.filter gk_gw from hw)).1
  obtain ⟨c0, i0, k0⟩ := u_known hT in_SD (hT _ tw_57)
  obtain ⟨c1, i1, k1⟩ := u_known hT in_Text (hT _ tw_65)
  obtain ⟨c2, i2, k2⟩ := u_known hT in_Template (hT _ tw_323)
  obtain ⟨c3, i3, k3⟩ := u_known hT in_Fit (hT _ tw_177)
  obtain ⟨c4, i4, k4⟩ := u_known hT in_Method (hT _ tw_382)
  obtain ⟨c5, i5, k5⟩ := u_known hT in_Locator (hT _ tw_444)
  obtain ⟨c6, i6, k6⟩ := u_known hT in_Filter (hT _ tw_478)
  obtain ⟨c7, i7, k7⟩ := u_known hT in_Catalog (hT _ tw_86)
  obtain ⟨c8, i8, k8⟩ := u_known hT in_Route (hT _ tw_171)
  obtain ⟨c9, i9, k9⟩ := u_known hT in_Accepted (hT _ tw_153)
  obtain ⟨c10, i10, k10⟩ := u_known hT in_FilterChain (hT _ tw_127)
  obtain ⟨c11, i11, k11⟩ := u_known hT in_Outcome (hT _ tw_217)
  obtain ⟨c12, i12, k12⟩ := u_known hT in_Mo (hT _ tw_750)
  obtain ⟨t0, a0, r0⟩ := gk_arP (hT _ tw_151)
  obtain ⟨t1, a1, r1⟩ := gk_arP (hT _ tw_84)
  obtain ⟨t2, a2, r2⟩ := gk_arP (hT _ tw_927)
  obtain ⟨t3, a3, r3⟩ := gk_arR (hts _ (List.mem_filter.mp (show _ ∈ lw_tbl.filter gk_nb from nw_92)).1)
  obtain ⟨t4, a4, r4⟩ := gk_arR (hts _ (List.mem_filter.mp (show _ ∈ lw_tbl.filter gk_nb from nw_94)).1)
  obtain ⟨t5, a5, r5⟩ := gk_arR (hts _ (List.mem_filter.mp (show _ ∈ lw_tbl.filter gk_nb from nw_96)).1)
  obtain ⟨t6, a6, r6⟩ := gk_arR (hts _ (List.mem_filter.mp (show _ ∈ lw_tbl.filter gk_nb from nw_133)).1)
  refine ⟨((fun i => match i with | 0 => c0 | 1 => c1 | 2 => c2 | 3 => c3 | 4 => c4 | 5 => c5 | 6 => c6 | 7 => c7 | 8 => c8 | 9 => c9 | 10 => c10 | 11 => c11 | _ => c12, fun i => match i with | 0 => i0 | 1 => i1 | 2 => i2 | 3 => i3 | 4 => i4 | 5 => i5 | 6 => i6 | 7 => i7 | 8 => i8 | 9 => i9 | 10 => i10 | 11 => i11 | _ => i12), (fun i => match i with | 0 => t0 | 1 => t1 | 2 => t2 | 3 => t3 | 4 => t4 | 5 => t5 | _ => t6), lo), rfl, fun i q hq => ?_, fun i ty hq => ?_, fun w hw => ?_⟩
  · have hi : i < 13 := (List.getElem?_eq_some_iff.mp hq).1
    rcases (by omega : i = 0 ∨ i = 1 ∨ i = 2 ∨ i = 3 ∨ i = 4 ∨ i = 5 ∨ i = 6 ∨ i = 7 ∨ i = 8 ∨ i = 9 ∨ i = 10 ∨ i = 11 ∨ i = 12) with rfl | rfl | rfl | rfl | rfl | rfl | rfl | rfl | rfl | rfl | rfl | rfl | rfl
    · cases hq; exact k0
    · cases hq; exact k1
    · cases hq; exact k2
    · cases hq; exact k3
    · cases hq; exact k4
    · cases hq; exact k5
    · cases hq; exact k6
    · cases hq; exact k7
    · cases hq; exact k8
    · cases hq; exact k9
    · cases hq; exact k10
    · cases hq; exact k11
    · cases hq; exact k12
  · have hi : i < 7 := (List.getElem?_eq_some_iff.mp hq).1
    rcases (by omega : i = 0 ∨ i = 1 ∨ i = 2 ∨ i = 3 ∨ i = 4 ∨ i = 5 ∨ i = 6) with rfl | rfl | rfl | rfl | rfl | rfl | rfl
    · cases hq; exact ⟨a0, r0⟩
    · cases hq; exact ⟨a1, r1⟩
    · cases hq; exact ⟨a2, r2⟩
    · cases hq; exact ⟨a3, r3⟩
    · cases hq; exact ⟨a4, r4⟩
    · cases hq; exact ⟨a5, r5⟩
    · cases hq; exact ⟨a6, r6⟩
  · have h := List.mem_filter.mp (show w ∈ lw_tbl.filter gk_nb from hw)
    exact ⟨gk_nb_ok h.2, (gk_nb_ok h.2).of (hts w h.1)⟩
/-- the claim's walk out of the pure statement of the law -/
theorem gk_whole (pure_law : ∀ (xs : Nat → Int32) (ln sz : Nat), ln ≤ 3072 → fn_Law_law xs ln (fun _ => none, sz) = some ()) {p : Program} {e : Env} {s : State} {m : MethodId} {below : List Frame} {meth : Method} {c : Code} (l : Launch) {b L : Nat} {xs : Nat → Int32} (hL : L ≤ 3072) (C0 : lw_At p s m meth c b L xs) : W p l e room_1 s m #[Value.ref b] below meth c s.heap [] 0 0 (lw_Z below #[Value.ref b] s) (entryFrame m ([Value.ref b] : List Value).toArray 4) := by
  obtain ⟨hx, hcb, hr, hml, hown, hts, hX, hbl, hlk, -⟩ := C0
  obtain ⟨Γ, hlo, hK⟩ := gk_known hts s.heap.size
  have hl := lv_entry [Value.ref b] (n := 4) (by simp [lg_sl, Value.category])
  rw [lg_entry_eq]
  refine sn_Law_law (Γ := Γ) (M := (fun _ => none, s.heap.size)) ⟨hx, hcb, hml, hown, fun w hw => hts w (List.mem_filter.mp (show w ∈ lw_tbl.filter gk_gw from hw)).1, hK, hlk, by rw [hlo]; exact Nat.le_refl _⟩ hr hX hbl hlo (pure_law xs L s.heap.size hL) s.heap [] _ ⟨rfl, fun a x h => by cases h⟩ va_S.rf ⟨hl.1, hl.2.1, fun q hq => hl.2.2 q ?_⟩
  simpa [gk_as, lv_args, va_rf] using hq
