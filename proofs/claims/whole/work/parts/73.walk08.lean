theorem d_SD_request_0 : decode c_SD_request 0 = .ok (.aload_n 0, 1) := by decide +kernel
theorem d_SD_request_1 : decode c_SD_request 1 = .ok (.getfield 10, 3) := by decide +kernel
theorem d_SD_request_4 : decode c_SD_request 4 = .ok (.invokevirtual 155, 3) := by decide +kernel
theorem d_SD_request_7 : decode c_SD_request 7 = .ok (.ifCond .eq 25, 3) := by decide +kernel
theorem d_SD_request_10 : decode c_SD_request 10 = .ok (.iload_n 1, 1) := by decide +kernel
theorem d_SD_request_11 : decode c_SD_request 11 = .ok (.invokestatic 89, 3) := by decide +kernel
theorem d_SD_request_14 : decode c_SD_request 14 = .ok (.ifCond .eq 18, 3) := by decide +kernel
theorem d_SD_request_17 : decode c_SD_request 17 = .ok (.iload_n 2, 1) := by decide +kernel
theorem d_SD_request_18 : decode c_SD_request 18 = .ok (.ifCond .eq 10, 3) := by decide +kernel
theorem d_SD_request_21 : decode c_SD_request 21 = .ok (.iload_n 2, 1) := by decide +kernel
theorem d_SD_request_22 : decode c_SD_request 22 = .ok (.invokestatic 159, 3) := by decide +kernel
theorem d_SD_request_25 : decode c_SD_request 25 = .ok (.ifCond .eq 7, 3) := by decide +kernel
theorem d_SD_request_28 : decode c_SD_request 28 = .ok (.iconst 1, 1) := by decide +kernel
theorem d_SD_request_29 : decode c_SD_request 29 = .ok (.goto 4, 3) := by decide +kernel
theorem d_SD_request_32 : decode c_SD_request 32 = .ok (.iconst 0, 1) := by decide +kernel
theorem d_SD_request_33 : decode c_SD_request 33 = .ok (.istore 4, 2) := by decide +kernel
theorem d_SD_request_35 : decode c_SD_request 35 = .ok (.iconst (-1), 1) := by decide +kernel
theorem d_SD_request_36 : decode c_SD_request 36 = .ok (.istore 5, 2) := by decide +kernel
theorem d_SD_request_38 : decode c_SD_request 38 = .ok (.iload 4, 2) := by decide +kernel
theorem d_SD_request_40 : decode c_SD_request 40 = .ok (.ifCond .eq 41, 3) := by decide +kernel
theorem d_SD_request_43 : decode c_SD_request 43 = .ok (.aload_n 0, 1) := by decide +kernel
theorem d_SD_request_44 : decode c_SD_request 44 = .ok (.getfield 47, 3) := by decide +kernel
theorem d_SD_request_47 : decode c_SD_request 47 = .ok (.aload_n 0, 1) := by decide +kernel
theorem d_SD_request_48 : decode c_SD_request 48 = .ok (.getfield 10, 3) := by decide +kernel
theorem d_SD_request_51 : decode c_SD_request 51 = .ok (.invokevirtual 162, 3) := by decide +kernel
theorem d_SD_request_54 : decode c_SD_request 54 = .ok (.aload_n 0, 1) := by decide +kernel
theorem d_SD_request_55 : decode c_SD_request 55 = .ok (.getfield 33, 3) := by decide +kernel
theorem d_SD_request_58 : decode c_SD_request 58 = .ok (.invokevirtual 165, 3) := by decide +kernel
theorem d_SD_request_61 : decode c_SD_request 61 = .ok (.aload_n 0, 1) := by decide +kernel
theorem d_SD_request_62 : decode c_SD_request 62 = .ok (.iload_n 1, 1) := by decide +kernel
theorem d_SD_request_63 : decode c_SD_request 63 = .ok (.iload_n 2, 1) := by decide +kernel
theorem d_SD_request_64 : decode c_SD_request 64 = .ok (.iload_n 3, 1) := by decide +kernel
theorem d_SD_request_65 : decode c_SD_request 65 = .ok (.invokevirtual 168, 3) := by decide +kernel
theorem d_SD_request_68 : decode c_SD_request 68 = .ok (.istore 5, 2) := by decide +kernel
theorem d_SD_request_70 : decode c_SD_request 70 = .ok (.aload_n 0, 1) := by decide +kernel
theorem d_SD_request_71 : decode c_SD_request 71 = .ok (.invokevirtual 172, 3) := by decide +kernel
theorem d_SD_request_74 : decode c_SD_request 74 = .ok (.aload_n 0, 1) := by decide +kernel
theorem d_SD_request_75 : decode c_SD_request 75 = .ok (.getfield 33, 3) := by decide +kernel
theorem d_SD_request_78 : decode c_SD_request 78 = .ok (.invokevirtual 175, 3) := by decide +kernel
theorem d_SD_request_81 : decode c_SD_request 81 = .ok (.aload_n 0, 1) := by decide +kernel
theorem d_SD_request_82 : decode c_SD_request 82 = .ok (.getfield 10, 3) := by decide +kernel
theorem d_SD_request_85 : decode c_SD_request 85 = .ok (.invokevirtual 76, 3) := by decide +kernel
theorem d_SD_request_88 : decode c_SD_request 88 = .ok (.iload 5, 2) := by decide +kernel
theorem d_SD_request_90 : decode c_SD_request 90 = .ok (.ireturn, 1) := by decide +kernel
set_option maxHeartbeats 4000000 in
set_option maxRecDepth 100000 in
theorem sn_SD_request_81 {l : Launch} {Γ : gk_G} {p : Program} {e : Env} {s : State} {m : MethodId} {args : Array Value} {below : List Frame} {meth : Method} {c : Code} (B : gk_B p s m args meth c gk_Y Γ c_SD_request 6 "StageDispatcher") (hr : meth.sig.returnType = (some .int)) {ρ : Int32 × gk_M}   {a0 : Option Nat} {x5 : Int32} {M : gk_M} (h : fn_SD_request_81  a0 x5 M = some ρ) : Gk p l e rm_SD_request s m args below meth c gk_Y Γ 6 (MQ below (gk_Q gk_Y Γ (some (.int ρ.1)) ρ.2) args s rm_SD_request.cells rm_SD_request.slots (fun q => Γ.2.2 ≤ q)) 0 0 M 81 [some (va_rf a0), none, none, none, none, some (.int x5)] [] := by
  unfold fn_SD_request_81 at h
  refine Gk_aload_n (i := 0) (r := a0) B d_SD_request_81 rfl rfl ?_
  obtain ⟨v82, h82, h⟩ := gk_bind h
  refine Gk_getR (j := 0) B d_SD_request_82 in_SD cl_SD (by decide) tw_278 rfl h82 ?_
  obtain ⟨o85, g85, h⟩ := gk_bind h
  obtain ⟨w85, h85, h⟩ := gk_bind h
  refine Gk_callV (As := []) (rest := []) (st1 := []) (k1 := 0) (n1 := 0) B gk_hG d_SD_request_85 (sn_Text_clear h85) g85 cl_Text tw_362 tw_359 tw_360 tw_361 tw_41 nm_Text_clear rfl (by decide) ⟨by decide, by decide⟩ ⟨by decide, by decide⟩ rfl rfl rfl rfl ?_
  refine Gk_iload (x := x5) B d_SD_request_88 rfl ?_
  cases h
  exact Gk_iret B hr d_SD_request_90 rfl (by decide) (by decide) rfl
set_option maxHeartbeats 4000000 in
set_option maxRecDepth 100000 in
theorem sn_SD_request_33 {l : Launch} {Γ : gk_G} {p : Program} {e : Env} {s : State} {m : MethodId} {args : Array Value} {below : List Frame} {meth : Method} {c : Code} (B : gk_B p s m args meth c gk_Y Γ c_SD_request 6 "StageDispatcher") (hr : meth.sig.returnType = (some .int)) {ρ : Int32 × gk_M}   {a0 : Option Nat} {x1 : Int32} {x2 : Int32} {x3 : Int32} {s0 : Int32} {M : gk_M} (h : fn_SD_request_33  a0 x1 x2 x3 s0 M = some ρ) : Gk p l e rm_SD_request s m args below meth c gk_Y Γ 6 (MQ below (gk_Q gk_Y Γ (some (.int ρ.1)) ρ.2) args s rm_SD_request.cells rm_SD_request.slots (fun q => Γ.2.2 ≤ q)) 0 0 M 33 [some (va_rf a0), some (.int x1), some (.int x2), some (.int x3), none, none] [.int s0] := by
  unfold fn_SD_request_33 at h
  refine Gk_istore (L' := [some (va_rf a0), some (.int x1), some (.int x2), some (.int x3), some (.int s0), none]) B d_SD_request_33 (by decide) (gk_c1_i rfl) rfl ?_
  refine Gk_iconst (v := (-1)) B d_SD_request_35 (by decide) ?_
  refine Gk_istore (L' := [some (va_rf a0), some (.int x1), some (.int x2), some (.int x3), some (.int s0), some (.int (-1))]) B d_SD_request_36 (by decide) (gk_c1_i rfl) rfl ?_
  refine Gk_iload (x := s0) B d_SD_request_38 rfl ?_
  refine Gk_if_eq (tgt := 81) B d_SD_request_40 rfl (fun c40 => ?_) (fun c40 => ?_)
  · rw [if_pos c40] at h
    refine Gk_weak [true, false, false, false, false, true] (L' := [some (va_rf a0), none, none, none, none, some (.int (-1))]) rfl ?_
    exact sn_SD_request_81 B hr h
  rw [if_neg c40] at h
  refine Gk_aload_n (i := 0) (r := a0) B d_SD_request_43 rfl rfl ?_
  obtain ⟨v44, h44, h⟩ := gk_bind h
  refine Gk_getR (j := 5) B d_SD_request_44 in_SD cl_SD (by decide) tw_283 rfl h44 ?_
  refine Gk_aload_n (i := 0) (r := a0) B d_SD_request_47 rfl rfl ?_
  obtain ⟨v48, h48, h⟩ := gk_bind h
  refine Gk_getR (j := 0) B d_SD_request_48 in_SD cl_SD (by decide) tw_278 rfl h48 ?_
  obtain ⟨o51, g51, h⟩ := gk_bind h
  obtain ⟨w51, h51, h⟩ := gk_bind h
  refine Gk_callV (As := [va_rf v48]) (rest := []) (st1 := []) (k1 := 0) (n1 := 0) B gk_hG d_SD_request_51 (sn_Outcome_begin h51) g51 cl_Outcome tw_535 tw_532 tw_533 tw_534 tw_47 nm_Outcome_begin rfl (by decide) ⟨by decide, by decide⟩ ⟨by decide, by decide⟩ rfl rfl rfl rfl ?_
  refine Gk_aload_n (i := 0) (r := a0) B d_SD_request_54 rfl rfl ?_
  obtain ⟨v55, h55, h⟩ := gk_bind h
  refine Gk_getR (j := 3) B d_SD_request_55 in_SD cl_SD (by decide) tw_281 rfl h55 ?_
  obtain ⟨o58, g58, h⟩ := gk_bind h
  obtain ⟨w58, h58, h⟩ := gk_bind h
  refine Gk_callV (As := []) (rest := []) (st1 := []) (k1 := 0) (n1 := 0) B gk_hG d_SD_request_58 (sn_Accepted_addDefault h58) g58 cl_Accepted tw_546 tw_543 tw_544 tw_545 tw_44 nm_Accepted_addDefault rfl (by decide) ⟨by decide, by decide⟩ ⟨by decide, by decide⟩ rfl rfl rfl rfl ?_
  refine Gk_aload_n (i := 0) (r := a0) B d_SD_request_61 rfl rfl ?_
  refine Gk_iload_n (i := 1) (x := x1) B d_SD_request_62 rfl rfl ?_
  refine Gk_iload_n (i := 2) (x := x2) B d_SD_request_63 rfl rfl ?_
  refine Gk_iload_n (i := 3) (x := x3) B d_SD_request_64 rfl rfl ?_
  obtain ⟨o65, g65, h⟩ := gk_bind h
  obtain ⟨w65, h65, h⟩ := gk_bind h
  refine Gk_callV (As := [.int x1, .int x2, .int x3]) (rest := []) (st1 := [.int w65.1]) (k1 := 0) (n1 := 0) B gk_hG d_SD_request_65 (sn_SD_runSteps h65) g65 cl_SD tw_551 tw_548 tw_550 tw_0 tw_40 nm_SD_runSteps rfl (by decide) ⟨by decide, by decide⟩ ⟨by decide, by decide⟩ rfl rfl rfl rfl ?_
  refine Gk_istore (L' := [some (va_rf a0), some (.int x1), some (.int x2), some (.int x3), some (.int s0), some (.int w65.1)]) B d_SD_request_68 (by decide) (gk_c1_i rfl) rfl ?_
  refine Gk_aload_n (i := 0) (r := a0) B d_SD_request_70 rfl rfl ?_
  obtain ⟨o71, g71, h⟩ := gk_bind h
  obtain ⟨w71, h71, h⟩ := gk_bind h
  refine Gk_callV (As := []) (rest := []) (st1 := []) (k1 := 0) (n1 := 0) B gk_hG d_SD_request_71 (sn_SD_runFiltersAtTheEnd h71) g71 cl_SD tw_716 tw_713 tw_715 tw_12 tw_40 nm_SD_runFiltersAtTheEnd rfl (by decide) ⟨by decide, by decide⟩ ⟨by decide, by decide⟩ rfl rfl rfl rfl ?_
  refine Gk_aload_n (i := 0) (r := a0) B d_SD_request_74 rfl rfl ?_
  obtain ⟨v75, h75, h⟩ := gk_bind h
  refine Gk_getR (j := 3) B d_SD_request_75 in_SD cl_SD (by decide) tw_281 rfl h75 ?_
  obtain ⟨o78, g78, h⟩ := gk_bind h
  obtain ⟨w78, h78, h⟩ := gk_bind h
  refine Gk_callV (As := []) (rest := []) (st1 := []) (k1 := 0) (n1 := 0) B gk_hG d_SD_request_78 (sn_Accepted_clear h78) g78 cl_Accepted tw_720 tw_717 tw_718 tw_719 tw_44 nm_Accepted_clear rfl (by decide) ⟨by decide, by decide⟩ ⟨by decide, by decide⟩ rfl rfl rfl rfl ?_
  refine Gk_weak [true, false, false, false, false, true] (L' := [some (va_rf a0), none, none, none, none, some (.int w65.1)]) rfl ?_
  exact sn_SD_request_81 B hr h
set_option maxHeartbeats 4000000 in
set_option maxRecDepth 100000 in
theorem sn_SD_request_32 {l : Launch} {Γ : gk_G} {p : Program} {e : Env} {s : State} {m : MethodId} {args : Array Value} {below : List Frame} {meth : Method} {c : Code} (B : gk_B p s m args meth c gk_Y Γ c_SD_request 6 "StageDispatcher") (hr : meth.sig.returnType = (some .int)) {ρ : Int32 × gk_M}   {a0 : Option Nat} {x1 : Int32} {x2 : Int32} {x3 : Int32} {M : gk_M} (h : fn_SD_request_32  a0 x1 x2 x3 M = some ρ) : Gk p l e rm_SD_request s m args below meth c gk_Y Γ 6 (MQ below (gk_Q gk_Y Γ (some (.int ρ.1)) ρ.2) args s rm_SD_request.cells rm_SD_request.slots (fun q => Γ.2.2 ≤ q)) 0 0 M 32 [some (va_rf a0), some (.int x1), some (.int x2), some (.int x3), none, none] [] := by
  unfold fn_SD_request_32 at h
  refine Gk_iconst (v := 0) B d_SD_request_32 (by decide) ?_
  exact sn_SD_request_33 B hr h
set_option maxHeartbeats 4000000 in
set_option maxRecDepth 100000 in
theorem sn_SD_request_28 {l : Launch} {Γ : gk_G} {p : Program} {e : Env} {s : State} {m : MethodId} {args : Array Value} {below : List Frame} {meth : Method} {c : Code} (B : gk_B p s m args meth c gk_Y Γ c_SD_request 6 "StageDispatcher") (hr : meth.sig.returnType = (some .int)) {ρ : Int32 × gk_M}   {a0 : Option Nat} {x1 : Int32} {x2 : Int32} {x3 : Int32} {M : gk_M} (h : fn_SD_request_28  a0 x1 x2 x3 M = some ρ) : Gk p l e rm_SD_request s m args below meth c gk_Y Γ 6 (MQ below (gk_Q gk_Y Γ (some (.int ρ.1)) ρ.2) args s rm_SD_request.cells rm_SD_request.slots (fun q => Γ.2.2 ≤ q)) 0 0 M 28 [some (va_rf a0), some (.int x1), some (.int x2), some (.int x3), none, none] [] := by
  unfold fn_SD_request_28 at h
  refine Gk_iconst (v := 1) B d_SD_request_28 (by decide) ?_
  refine Gk_goto (tgt := 33) B d_SD_request_29 rfl ?_
  exact sn_SD_request_33 B hr h
set_option maxHeartbeats 4000000 in
set_option maxRecDepth 100000 in
theorem sn_SD_request_0 {l : Launch} {Γ : gk_G} {p : Program} {e : Env} {s : State} {m : MethodId} {args : Array Value} {below : List Frame} {meth : Method} {c : Code} (B : gk_B p s m args meth c gk_Y Γ c_SD_request 6 "StageDispatcher") (hr : meth.sig.returnType = (some .int)) {ρ : Int32 × gk_M}   {a0 : Option Nat} {x1 : Int32} {x2 : Int32} {x3 : Int32} {M : gk_M} (h : fn_SD_request  a0 x1 x2 x3 M = some ρ) : Gk p l e rm_SD_request s m args below meth c gk_Y Γ 6 (MQ below (gk_Q gk_Y Γ (some (.int ρ.1)) ρ.2) args s rm_SD_request.cells rm_SD_request.slots (fun q => Γ.2.2 ≤ q)) 0 0 M 0 [some (va_rf a0), some (.int x1), some (.int x2), some (.int x3), none, none] [] := by
  unfold fn_SD_request at h
  refine Gk_aload_n (i := 0) (r := a0) B d_SD_request_0 rfl rfl ?_
  obtain ⟨v1, h1, h⟩ := gk_bind h
  refine Gk_getR (j := 0) B d_SD_request_1 in_SD cl_SD (by decide) tw_278 rfl h1 ?_
  obtain ⟨o4, g4, h⟩ := gk_bind h
  obtain ⟨w4, h4, h⟩ := gk_bind h
  refine Gk_callV (As := []) (rest := []) (st1 := [.int w4.1]) (k1 := 0) (n1 := 0) B gk_hG d_SD_request_4 (sn_Text_isPath h4) g4 cl_Text tw_527 tw_524 tw_525 tw_526 tw_41 nm_Text_isPath rfl (by decide) ⟨by decide, by decide⟩ ⟨by decide, by decide⟩ rfl rfl rfl rfl ?_
  refine Gk_if_eq (tgt := 32) B d_SD_request_7 rfl (fun c7 => ?_) (fun c7 => ?_)
  · rw [if_pos c7] at h
    exact sn_SD_request_32 B hr h
  rw [if_neg c7] at h
  refine Gk_iload_n (i := 1) (x := x1) B d_SD_request_10 rfl rfl ?_
  obtain ⟨w11, h11, h⟩ := gk_bind h
  refine Gk_callS (As := [.int x1]) (rest := []) (st1 := [.int w11.1]) (k1 := 0) (n1 := 0) B gk_hG d_SD_request_11 (sn_SD_isVerb h11) tw_376 tw_374 tw_375 tw_40 nm_SD_isVerb rfl (by decide) ⟨by decide, by decide⟩ ⟨by decide, by decide⟩ rfl rfl rfl rfl ?_
  refine Gk_if_eq (tgt := 32) B d_SD_request_14 rfl (fun c14 => ?_) (fun c14 => ?_)
  · rw [if_pos c14] at h
    exact sn_SD_request_32 B hr h
  rw [if_neg c14] at h
  refine Gk_iload_n (i := 2) (x := x2) B d_SD_request_17 rfl rfl ?_
  refine Gk_if_eq (tgt := 28) B d_SD_request_18 rfl (fun c18 => ?_) (fun c18 => ?_)
  · rw [if_pos c18] at h
    exact sn_SD_request_28 B hr h
  rw [if_neg c18] at h
  refine Gk_iload_n (i := 2) (x := x2) B d_SD_request_21 rfl rfl ?_
  obtain ⟨w22, h22, h⟩ := gk_bind h
  refine Gk_callS (As := [.int x2]) (rest := []) (st1 := [.int w22.1]) (k1 := 0) (n1 := 0) B gk_hG d_SD_request_22 (sn_SD_isConcrete h22) tw_531 tw_529 tw_530 tw_40 nm_SD_isConcrete rfl (by decide) ⟨by decide, by decide⟩ ⟨by decide, by decide⟩ rfl rfl rfl rfl ?_
  refine Gk_if_eq (tgt := 32) B d_SD_request_25 rfl (fun c25 => ?_) (fun c25 => ?_)
  · rw [if_pos c25] at h
    exact sn_SD_request_32 B hr h
  rw [if_neg c25] at h
  exact sn_SD_request_28 B hr h
theorem sn_SD_request {l : Launch} {Γ : gk_G} {a0 : Option Nat} {x1 : Int32} {x2 : Int32} {x3 : Int32} {M : gk_M} {ρ : Int32 × gk_M} (h : fn_SD_request a0 x1 x2 x3 M = some ρ) : gk_Met l gk_Y Γ y_SD_request (.code y_SD_request c_SD_request 6 (some .int) :: gk_Y.2.2.2) rm_SD_request [va_rf a0, .int x1, .int x2, .int x3] M (some (.int ρ.1)) ρ.2 :=
  gk_start (by decide) (by simp [lg_sl, gk_rc, gk_ic, gk_jc]) [some (va_rf a0), some (.int x1), some (.int x2), some (.int x3), none, none] (by simp [gk_as, lv_args, gk_rc, gk_ic, gk_jc]) (fun p e s m args below meth c B hr hin => sn_SD_request_0 B hr h)
theorem d_Mo_bound_0 : decode c_Mo_bound 0 = .ok (.aload_n 0, 1) := by decide +kernel
theorem d_Mo_bound_1 : decode c_Mo_bound 1 = .ok (.getfield 53, 3) := by decide +kernel
theorem d_Mo_bound_4 : decode c_Mo_bound 4 = .ok (.iload_n 1, 1) := by decide +kernel
theorem d_Mo_bound_5 : decode c_Mo_bound 5 = .ok (.iaload, 1) := by decide +kernel
theorem d_Mo_bound_6 : decode c_Mo_bound 6 = .ok (.ifCond .eq 22, 3) := by decide +kernel
theorem d_Mo_bound_9 : decode c_Mo_bound 9 = .ok (.iload_n 2, 1) := by decide +kernel
theorem d_Mo_bound_10 : decode c_Mo_bound 10 = .ok (.ifCond .lt 22, 3) := by decide +kernel
theorem d_Mo_bound_13 : decode c_Mo_bound 13 = .ok (.aload_n 0, 1) := by decide +kernel
theorem d_Mo_bound_14 : decode c_Mo_bound 14 = .ok (.getfield 53, 3) := by decide +kernel
theorem d_Mo_bound_17 : decode c_Mo_bound 17 = .ok (.iload_n 1, 1) := by decide +kernel
theorem d_Mo_bound_18 : decode c_Mo_bound 18 = .ok (.iaload, 1) := by decide +kernel
theorem d_Mo_bound_19 : decode c_Mo_bound 19 = .ok (.aload_n 0, 1) := by decide +kernel
theorem d_Mo_bound_20 : decode c_Mo_bound 20 = .ok (.getfield 38, 3) := by decide +kernel
theorem d_Mo_bound_23 : decode c_Mo_bound 23 = .ok (.iload_n 2, 1) := by decide +kernel
theorem d_Mo_bound_24 : decode c_Mo_bound 24 = .ok (.iaload, 1) := by decide +kernel
theorem d_Mo_bound_25 : decode c_Mo_bound 25 = .ok (.if_icmp .ne 7, 3) := by decide +kernel
theorem d_Mo_bound_28 : decode c_Mo_bound 28 = .ok (.iconst 1, 1) := by decide +kernel
theorem d_Mo_bound_29 : decode c_Mo_bound 29 = .ok (.goto 4, 3) := by decide +kernel
theorem d_Mo_bound_32 : decode c_Mo_bound 32 = .ok (.iconst 0, 1) := by decide +kernel
theorem d_Mo_bound_33 : decode c_Mo_bound 33 = .ok (.ireturn, 1) := by decide +kernel
set_option maxHeartbeats 4000000 in
set_option maxRecDepth 100000 in
theorem sn_Mo_bound_28 {l : Launch} {Γ : gk_G} {p : Program} {e : Env} {s : State} {m : MethodId} {args : Array Value} {below : List Frame} {meth : Method} {c : Code} (B : gk_B p s m args meth c gk_Y Γ c_Mo_bound 3 "StageDispatcherModel") (hr : meth.sig.returnType = (some .boolean)) {ρ : Int32 × gk_M}    {M : gk_M} (h : fn_Mo_bound_28   M = some ρ) : Gk p l e rm_Mo_bound s m args below meth c gk_Y Γ 3 (MQ below (gk_Q gk_Y Γ (some (.int ρ.1)) ρ.2) args s rm_Mo_bound.cells rm_Mo_bound.slots (fun q => Γ.2.2 ≤ q)) 0 0 M 28 [none, none, none] [] := by
  unfold fn_Mo_bound_28 at h
  refine Gk_iconst (v := 1) B d_Mo_bound_28 (by decide) ?_
  refine Gk_goto (tgt := 33) B d_Mo_bound_29 rfl ?_
  obtain ⟨z, hz, h⟩ := gk_bind h
  obtain ⟨hz1, hz2⟩ := gk_z_eq hz
  cases h
  subst hz1
  exact Gk_iret B hr d_Mo_bound_33 (gk_nz hz2) (by decide) (by decide) rfl
set_option maxHeartbeats 4000000 in
set_option maxRecDepth 100000 in
theorem sn_Mo_bound_32 {l : Launch} {Γ : gk_G} {p : Program} {e : Env} {s : State} {m : MethodId} {args : Array Value} {below : List Frame} {meth : Method} {c : Code} (B : gk_B p s m args meth c gk_Y Γ c_Mo_bound 3 "StageDispatcherModel") (hr : meth.sig.returnType = (some .boolean)) {ρ : Int32 × gk_M}    {M : gk_M} (h : fn_Mo_bound_32   M = some ρ) : Gk p l e rm_Mo_bound s m args below meth c gk_Y Γ 3 (MQ below (gk_Q gk_Y Γ (some (.int ρ.1)) ρ.2) args s rm_Mo_bound.cells rm_Mo_bound.slots (fun q => Γ.2.2 ≤ q)) 0 0 M 32 [none, none, none] [] := by
  unfold fn_Mo_bound_32 at h
  refine Gk_iconst (v := 0) B d_Mo_bound_32 (by decide) ?_
  obtain ⟨z, hz, h⟩ := gk_bind h
  obtain ⟨hz1, hz2⟩ := gk_z_eq hz
  cases h
  subst hz1
  exact Gk_iret B hr d_Mo_bound_33 (gk_nz hz2) (by decide) (by decide) rfl
set_option maxHeartbeats 4000000 in
set_option maxRecDepth 100000 in
theorem sn_Mo_bound_0 {l : Launch} {Γ : gk_G} {p : Program} {e : Env} {s : State} {m : MethodId} {args : Array Value} {below : List Frame} {meth : Method} {c : Code} (B : gk_B p s m args meth c gk_Y Γ c_Mo_bound 3 "StageDispatcherModel") (hr : meth.sig.returnType = (some .boolean)) {ρ : Int32 × gk_M}   {a0 : Option Nat} {x1 : Int32} {x2 : Int32} {M : gk_M} (h : fn_Mo_bound  a0 x1 x2 M = some ρ) : Gk p l e rm_Mo_bound s m args below meth c gk_Y Γ 3 (MQ below (gk_Q gk_Y Γ (some (.int ρ.1)) ρ.2) args s rm_Mo_bound.cells rm_Mo_bound.slots (fun q => Γ.2.2 ≤ q)) 0 0 M 0 [some (va_rf a0), some (.int x1), some (.int x2)] [] := by
  unfold fn_Mo_bound at h
  refine Gk_aload_n (i := 0) (r := a0) B d_Mo_bound_0 rfl rfl ?_
  obtain ⟨v1, h1, h⟩ := gk_bind h
  refine Gk_getR (j := 19) B d_Mo_bound_1 in_Mo cl_Mo (by decide) tw_774 rfl h1 ?_
  refine Gk_iload_n (i := 1) (x := x1) B d_Mo_bound_4 rfl rfl ?_
  obtain ⟨v5, h5, h⟩ := gk_bind h
  refine Gk_iaload B d_Mo_bound_5 ty_0 h5 ?_
  refine Gk_if_eq (tgt := 28) B d_Mo_bound_6 rfl (fun c6 => ?_) (fun c6 => ?_)
  · rw [if_pos c6] at h
    refine Gk_weak [false, false, false] (L' := [none, none, none]) rfl ?_
    exact sn_Mo_bound_28 B hr h
  rw [if_neg c6] at h
  refine Gk_iload_n (i := 2) (x := x2) B d_Mo_bound_9 rfl rfl ?_
  refine Gk_if_lt (tgt := 32) B d_Mo_bound_10 rfl (fun c10 => ?_) (fun c10 => ?_)
  · rw [if_pos c10] at h
    refine Gk_weak [false, false, false] (L' := [none, none, none]) rfl ?_
    exact sn_Mo_bound_32 B hr h
  rw [if_neg c10] at h
  refine Gk_aload_n (i := 0) (r := a0) B d_Mo_bound_13 rfl rfl ?_
  obtain ⟨v14, h14, h⟩ := gk_bind h
  refine Gk_getR (j := 19) B d_Mo_bound_14 in_Mo cl_Mo (by decide) tw_774 rfl h14 ?_
  refine Gk_iload_n (i := 1) (x := x1) B d_Mo_bound_17 rfl rfl ?_
  obtain ⟨v18, h18, h⟩ := gk_bind h
  refine Gk_iaload B d_Mo_bound_18 ty_0 h18 ?_
  refine Gk_aload_n (i := 0) (r := a0) B d_Mo_bound_19 rfl rfl ?_
  obtain ⟨v20, h20, h⟩ := gk_bind h
  refine Gk_getR (j := 12) B d_Mo_bound_20 in_Mo cl_Mo (by decide) tw_767 rfl h20 ?_
  refine Gk_iload_n (i := 2) (x := x2) B d_Mo_bound_23 rfl rfl ?_
  obtain ⟨v24, h24, h⟩ := gk_bind h
  refine Gk_iaload B d_Mo_bound_24 ty_0 h24 ?_
  refine Gk_icmp_ne (tgt := 32) B d_Mo_bound_25 rfl (fun c25 => ?_) (fun c25 => ?_)
  · rw [if_neg c25] at h
    refine Gk_weak [false, false, false] (L' := [none, none, none]) rfl ?_
    exact sn_Mo_bound_32 B hr h
  rw [if_pos c25] at h
  refine Gk_weak [false, false, false] (L' := [none, none, none]) rfl ?_
  exact sn_Mo_bound_28 B hr h
theorem sn_Mo_bound {l : Launch} {Γ : gk_G} {a0 : Option Nat} {x1 : Int32} {x2 : Int32} {M : gk_M} {ρ : Int32 × gk_M} (h : fn_Mo_bound a0 x1 x2 M = some ρ) : gk_Met l gk_Y Γ y_Mo_bound (.code y_Mo_bound c_Mo_bound 3 (some .boolean) :: gk_Y.2.2.2) rm_Mo_bound [va_rf a0, .int x1, .int x2] M (some (.int ρ.1)) ρ.2 :=
  gk_start (by decide) (by simp [lg_sl, gk_rc, gk_ic, gk_jc]) [some (va_rf a0), some (.int x1), some (.int x2)] (by simp [gk_as, lv_args, gk_rc, gk_ic, gk_jc]) (fun p e s m args below meth c B hr hin => sn_Mo_bound_0 B hr h)
theorem d_Mo_meetHeader_0 : decode c_Mo_meetHeader 0 = .ok (.iload_n 1, 1) := by decide +kernel
theorem d_Mo_meetHeader_1 : decode c_Mo_meetHeader 1 = .ok (.bipush 100, 2) := by decide +kernel
theorem d_Mo_meetHeader_3 : decode c_Mo_meetHeader 3 = .ok (.if_icmp .lt 16, 3) := by decide +kernel
theorem d_Mo_meetHeader_6 : decode c_Mo_meetHeader 6 = .ok (.aload_n 0, 1) := by decide +kernel
theorem d_Mo_meetHeader_7 : decode c_Mo_meetHeader 7 = .ok (.iload_n 1, 1) := by decide +kernel
theorem d_Mo_meetHeader_8 : decode c_Mo_meetHeader 8 = .ok (.putfield 268, 3) := by decide +kernel
theorem d_Mo_meetHeader_11 : decode c_Mo_meetHeader 11 = .ok (.aload_n 0, 1) := by decide +kernel
theorem d_Mo_meetHeader_12 : decode c_Mo_meetHeader 12 = .ok (.iconst 1, 1) := by decide +kernel
theorem d_Mo_meetHeader_13 : decode c_Mo_meetHeader 13 = .ok (.putfield 255, 3) := by decide +kernel
theorem d_Mo_meetHeader_16 : decode c_Mo_meetHeader 16 = .ok (.goto 8, 3) := by decide +kernel
theorem d_Mo_meetHeader_19 : decode c_Mo_meetHeader 19 = .ok (.aload_n 0, 1) := by decide +kernel
theorem d_Mo_meetHeader_20 : decode c_Mo_meetHeader 20 = .ok (.iload_n 1, 1) := by decide +kernel
theorem d_Mo_meetHeader_21 : decode c_Mo_meetHeader 21 = .ok (.putfield 234, 3) := by decide +kernel
theorem d_Mo_meetHeader_24 : decode c_Mo_meetHeader 24 = .ok (.return_, 1) := by decide +kernel
set_option maxHeartbeats 4000000 in
set_option maxRecDepth 100000 in
theorem sn_Mo_meetHeader_0 {l : Launch} {Γ : gk_G} {p : Program} {e : Env} {s : State} {m : MethodId} {args : Array Value} {below : List Frame} {meth : Method} {c : Code} (B : gk_B p s m args meth c gk_Y Γ c_Mo_meetHeader 2 "StageDispatcherModel") (hr : meth.sig.returnType = none) {ρ : gk_M}   {a0 : Option Nat} {x1 : Int32} {M : gk_M} (h : fn_Mo_meetHeader  a0 x1 M = some ρ) : Gk p l e rm_Mo_meetHeader s m args below meth c gk_Y Γ 2 (MQ below (gk_Q gk_Y Γ none ρ) args s rm_Mo_meetHeader.cells rm_Mo_meetHeader.slots (fun q => Γ.2.2 ≤ q)) 0 0 M 0 [some (va_rf a0), some (.int x1)] [] := by
  unfold fn_Mo_meetHeader at h
  refine Gk_iload_n (i := 1) (x := x1) B d_Mo_meetHeader_0 rfl rfl ?_
  refine Gk_bipush (v := 100) B d_Mo_meetHeader_1 (by decide) ?_
  refine Gk_icmp_lt (tgt := 19) B d_Mo_meetHeader_3 rfl (fun c3 => ?_) (fun c3 => ?_)
  · rw [if_pos c3] at h
    refine Gk_aload_n (i := 0) (r := a0) B d_Mo_meetHeader_19 rfl rfl ?_
    refine Gk_iload_n (i := 1) (x := x1) B d_Mo_meetHeader_20 rfl rfl ?_
    obtain ⟨M21, h21, h⟩ := gk_bind h
    refine Gk_put (j := 30) (ty := .int) B d_Mo_meetHeader_21 in_Mo t_Mo t_Mo_ok n_Mo cl_Mo (by decide) tw_785 rfl rfl rfl rfl rfl h21 ?_
    cases h
    exact Gk_vret B hr d_Mo_meetHeader_24 (by decide) (by decide) rfl
  rw [if_neg c3] at h
  refine Gk_aload_n (i := 0) (r := a0) B d_Mo_meetHeader_6 rfl rfl ?_
  refine Gk_iload_n (i := 1) (x := x1) B d_Mo_meetHeader_7 rfl rfl ?_
  obtain ⟨M8, h8, h⟩ := gk_bind h
  refine Gk_put (j := 32) (ty := .int) B d_Mo_meetHeader_8 in_Mo t_Mo t_Mo_ok n_Mo cl_Mo (by decide) tw_787 rfl rfl rfl rfl rfl h8 ?_
  refine Gk_aload_n (i := 0) (r := a0) B d_Mo_meetHeader_11 rfl rfl ?_
  refine Gk_iconst (v := 1) B d_Mo_meetHeader_12 (by decide) ?_
  obtain ⟨z13, y13, h⟩ := gk_bind h
  obtain ⟨e13, f13⟩ := gk_z_eq y13
  subst e13
  obtain ⟨M13, h13, h⟩ := gk_bind h
  refine Gk_put (j := 33) (ty := .boolean) B d_Mo_meetHeader_13 in_Mo t_Mo t_Mo_ok n_Mo cl_Mo (by decide) tw_788 rfl rfl rfl (gk_nz f13) (gk_fz f13) h13 ?_
  refine Gk_goto (tgt := 24) B d_Mo_meetHeader_16 rfl ?_
  cases h
  exact Gk_vret B hr d_Mo_meetHeader_24 (by decide) (by decide) rfl
theorem sn_Mo_meetHeader {l : Launch} {Γ : gk_G} {a0 : Option Nat} {x1 : Int32} {M : gk_M} {ρ : gk_M} (h : fn_Mo_meetHeader a0 x1 M = some ρ) : gk_Met l gk_Y Γ y_Mo_meetHeader (.code y_Mo_meetHeader c_Mo_meetHeader 2 none :: gk_Y.2.2.2) rm_Mo_meetHeader [va_rf a0, .int x1] M none ρ :=
  gk_start (by decide) (by simp [lg_sl, gk_rc, gk_ic, gk_jc]) [some (va_rf a0), some (.int x1)] (by simp [gk_as, lv_args, gk_rc, gk_ic, gk_jc]) (fun p e s m args below meth c B hr hin => sn_Mo_meetHeader_0 B hr h)
theorem d_Mo_filterAll_0 : decode c_Mo_filterAll 0 = .ok (.iconst 0, 1) := by decide +kernel
theorem d_Mo_filterAll_1 : decode c_Mo_filterAll 1 = .ok (.istore_n 3, 1) := by decide +kernel
theorem d_Mo_filterAll_2 : decode c_Mo_filterAll 2 = .ok (.iload_n 3, 1) := by decide +kernel
theorem d_Mo_filterAll_3 : decode c_Mo_filterAll 3 = .ok (.aload_n 0, 1) := by decide +kernel
theorem d_Mo_filterAll_4 : decode c_Mo_filterAll 4 = .ok (.getfield 181, 3) := by decide +kernel
theorem d_Mo_filterAll_7 : decode c_Mo_filterAll 7 = .ok (.if_icmp .ge 43, 3) := by decide +kernel
theorem d_Mo_filterAll_10 : decode c_Mo_filterAll 10 = .ok (.aload_n 0, 1) := by decide +kernel
theorem d_Mo_filterAll_11 : decode c_Mo_filterAll 11 = .ok (.getfield 65, 3) := by decide +kernel
theorem d_Mo_filterAll_14 : decode c_Mo_filterAll 14 = .ok (.iload_n 3, 1) := by decide +kernel
theorem d_Mo_filterAll_15 : decode c_Mo_filterAll 15 = .ok (.aload_n 0, 1) := by decide +kernel
theorem d_Mo_filterAll_16 : decode c_Mo_filterAll 16 = .ok (.getfield 56, 3) := by decide +kernel
theorem d_Mo_filterAll_19 : decode c_Mo_filterAll 19 = .ok (.iload_n 3, 1) := by decide +kernel
theorem d_Mo_filterAll_20 : decode c_Mo_filterAll 20 = .ok (.iaload, 1) := by decide +kernel
theorem d_Mo_filterAll_21 : decode c_Mo_filterAll 21 = .ok (.iload_n 1, 1) := by decide +kernel
theorem d_Mo_filterAll_22 : decode c_Mo_filterAll 22 = .ok (.if_icmp .ne 16, 3) := by decide +kernel
theorem d_Mo_filterAll_25 : decode c_Mo_filterAll 25 = .ok (.iload_n 1, 1) := by decide +kernel
theorem d_Mo_filterAll_26 : decode c_Mo_filterAll 26 = .ok (.ifCond .le 16, 3) := by decide +kernel
theorem d_Mo_filterAll_29 : decode c_Mo_filterAll 29 = .ok (.aload_n 0, 1) := by decide +kernel
theorem d_Mo_filterAll_30 : decode c_Mo_filterAll 30 = .ok (.iload_n 3, 1) := by decide +kernel
theorem d_Mo_filterAll_31 : decode c_Mo_filterAll 31 = .ok (.iload_n 2, 1) := by decide +kernel
theorem d_Mo_filterAll_32 : decode c_Mo_filterAll 32 = .ok (.invokevirtual 252, 3) := by decide +kernel
theorem d_Mo_filterAll_35 : decode c_Mo_filterAll 35 = .ok (.ifCond .ne 7, 3) := by decide +kernel
theorem d_Mo_filterAll_38 : decode c_Mo_filterAll 38 = .ok (.iconst 1, 1) := by decide +kernel
theorem d_Mo_filterAll_39 : decode c_Mo_filterAll 39 = .ok (.goto 4, 3) := by decide +kernel
theorem d_Mo_filterAll_42 : decode c_Mo_filterAll 42 = .ok (.iconst 0, 1) := by decide +kernel
theorem d_Mo_filterAll_43 : decode c_Mo_filterAll 43 = .ok (.bastore, 1) := by decide +kernel
theorem d_Mo_filterAll_44 : decode c_Mo_filterAll 44 = .ok (.iinc 3 1, 3) := by decide +kernel
theorem d_Mo_filterAll_47 : decode c_Mo_filterAll 47 = .ok (.goto (-45), 3) := by decide +kernel
theorem d_Mo_filterAll_50 : decode c_Mo_filterAll 50 = .ok (.iconst 0, 1) := by decide +kernel
theorem d_Mo_filterAll_51 : decode c_Mo_filterAll 51 = .ok (.istore_n 3, 1) := by decide +kernel
theorem d_Mo_filterAll_52 : decode c_Mo_filterAll 52 = .ok (.iload_n 3, 1) := by decide +kernel
theorem d_Mo_filterAll_53 : decode c_Mo_filterAll 53 = .ok (.bipush 8, 2) := by decide +kernel
theorem d_Mo_filterAll_55 : decode c_Mo_filterAll 55 = .ok (.if_icmp .ge 185, 3) := by decide +kernel
theorem d_Mo_filterAll_58 : decode c_Mo_filterAll 58 = .ok (.aload_n 0, 1) := by decide +kernel
theorem d_Mo_filterAll_59 : decode c_Mo_filterAll 59 = .ok (.getfield 255, 3) := by decide +kernel
theorem d_Mo_filterAll_62 : decode c_Mo_filterAll 62 = .ok (.ifCond .eq 8, 3) := by decide +kernel
theorem d_Mo_filterAll_65 : decode c_Mo_filterAll 65 = .ok (.iload_n 1, 1) := by decide +kernel
theorem d_Mo_filterAll_66 : decode c_Mo_filterAll 66 = .ok (.iconst 2, 1) := by decide +kernel
theorem d_Mo_filterAll_67 : decode c_Mo_filterAll 67 = .ok (.if_icmp .lt 173, 3) := by decide +kernel
theorem d_Mo_filterAll_70 : decode c_Mo_filterAll 70 = .ok (.iconst (-1), 1) := by decide +kernel
theorem d_Mo_filterAll_71 : decode c_Mo_filterAll 71 = .ok (.istore 4, 2) := by decide +kernel
theorem d_Mo_filterAll_73 : decode c_Mo_filterAll 73 = .ok (.iconst 0, 1) := by decide +kernel
theorem d_Mo_filterAll_74 : decode c_Mo_filterAll 74 = .ok (.istore 5, 2) := by decide +kernel
theorem d_Mo_filterAll_76 : decode c_Mo_filterAll 76 = .ok (.iload 5, 2) := by decide +kernel
theorem d_Mo_filterAll_78 : decode c_Mo_filterAll 78 = .ok (.aload_n 0, 1) := by decide +kernel
theorem d_Mo_filterAll_79 : decode c_Mo_filterAll 79 = .ok (.getfield 181, 3) := by decide +kernel
theorem d_Mo_filterAll_82 : decode c_Mo_filterAll 82 = .ok (.if_icmp .ge 87, 3) := by decide +kernel
theorem d_Mo_filterAll_85 : decode c_Mo_filterAll 85 = .ok (.iload 4, 2) := by decide +kernel
theorem d_Mo_filterAll_87 : decode c_Mo_filterAll 87 = .ok (.ifCond .lt 49, 3) := by decide +kernel
theorem d_Mo_filterAll_90 : decode c_Mo_filterAll 90 = .ok (.iload_n 1, 1) := by decide +kernel
theorem d_Mo_filterAll_91 : decode c_Mo_filterAll 91 = .ok (.iconst 2, 1) := by decide +kernel
theorem d_Mo_filterAll_92 : decode c_Mo_filterAll 92 = .ok (.if_icmp .ge 23, 3) := by decide +kernel
theorem d_Mo_filterAll_95 : decode c_Mo_filterAll 95 = .ok (.aload_n 0, 1) := by decide +kernel
theorem d_Mo_filterAll_96 : decode c_Mo_filterAll 96 = .ok (.getfield 50, 3) := by decide +kernel
theorem d_Mo_filterAll_99 : decode c_Mo_filterAll 99 = .ok (.iload 5, 2) := by decide +kernel
theorem d_Mo_filterAll_101 : decode c_Mo_filterAll 101 = .ok (.iaload, 1) := by decide +kernel
theorem d_Mo_filterAll_102 : decode c_Mo_filterAll 102 = .ok (.aload_n 0, 1) := by decide +kernel
theorem d_Mo_filterAll_103 : decode c_Mo_filterAll 103 = .ok (.getfield 50, 3) := by decide +kernel
theorem d_Mo_filterAll_106 : decode c_Mo_filterAll 106 = .ok (.iload 4, 2) := by decide +kernel
theorem d_Mo_filterAll_108 : decode c_Mo_filterAll 108 = .ok (.iaload, 1) := by decide +kernel
theorem d_Mo_filterAll_109 : decode c_Mo_filterAll 109 = .ok (.if_icmp .ge 27, 3) := by decide +kernel
theorem d_Mo_filterAll_112 : decode c_Mo_filterAll 112 = .ok (.goto 20, 3) := by decide +kernel
theorem d_Mo_filterAll_115 : decode c_Mo_filterAll 115 = .ok (.aload_n 0, 1) := by decide +kernel
theorem d_Mo_filterAll_116 : decode c_Mo_filterAll 116 = .ok (.getfield 50, 3) := by decide +kernel
theorem d_Mo_filterAll_119 : decode c_Mo_filterAll 119 = .ok (.iload 5, 2) := by decide +kernel
theorem d_Mo_filterAll_121 : decode c_Mo_filterAll 121 = .ok (.iaload, 1) := by decide +kernel
theorem d_Mo_filterAll_122 : decode c_Mo_filterAll 122 = .ok (.aload_n 0, 1) := by decide +kernel
theorem d_Mo_filterAll_123 : decode c_Mo_filterAll 123 = .ok (.getfield 50, 3) := by decide +kernel
theorem d_Mo_filterAll_126 : decode c_Mo_filterAll 126 = .ok (.iload 4, 2) := by decide +kernel
theorem d_Mo_filterAll_128 : decode c_Mo_filterAll 128 = .ok (.iaload, 1) := by decide +kernel
theorem d_Mo_filterAll_129 : decode c_Mo_filterAll 129 = .ok (.if_icmp .le 7, 3) := by decide +kernel
theorem d_Mo_filterAll_132 : decode c_Mo_filterAll 132 = .ok (.iconst 1, 1) := by decide +kernel
theorem d_Mo_filterAll_133 : decode c_Mo_filterAll 133 = .ok (.goto 4, 3) := by decide +kernel
theorem d_Mo_filterAll_136 : decode c_Mo_filterAll 136 = .ok (.iconst 0, 1) := by decide +kernel
theorem d_Mo_filterAll_137 : decode c_Mo_filterAll 137 = .ok (.istore 6, 2) := by decide +kernel
theorem d_Mo_filterAll_139 : decode c_Mo_filterAll 139 = .ok (.aload_n 0, 1) := by decide +kernel
theorem d_Mo_filterAll_140 : decode c_Mo_filterAll 140 = .ok (.getfield 65, 3) := by decide +kernel
theorem d_Mo_filterAll_143 : decode c_Mo_filterAll 143 = .ok (.iload 5, 2) := by decide +kernel
theorem d_Mo_filterAll_145 : decode c_Mo_filterAll 145 = .ok (.baload, 1) := by decide +kernel
theorem d_Mo_filterAll_146 : decode c_Mo_filterAll 146 = .ok (.ifCond .ne 17, 3) := by decide +kernel
theorem d_Mo_filterAll_149 : decode c_Mo_filterAll 149 = .ok (.iload 4, 2) := by decide +kernel
theorem d_Mo_filterAll_151 : decode c_Mo_filterAll 151 = .ok (.ifCond .lt 8, 3) := by decide +kernel
theorem d_Mo_filterAll_154 : decode c_Mo_filterAll 154 = .ok (.iload 6, 2) := by decide +kernel
theorem d_Mo_filterAll_156 : decode c_Mo_filterAll 156 = .ok (.ifCond .eq 7, 3) := by decide +kernel
theorem d_Mo_filterAll_159 : decode c_Mo_filterAll 159 = .ok (.iload 5, 2) := by decide +kernel
theorem d_Mo_filterAll_161 : decode c_Mo_filterAll 161 = .ok (.istore 4, 2) := by decide +kernel
theorem d_Mo_filterAll_163 : decode c_Mo_filterAll 163 = .ok (.iinc 5 1, 3) := by decide +kernel
theorem d_Mo_filterAll_166 : decode c_Mo_filterAll 166 = .ok (.goto (-90), 3) := by decide +kernel
theorem d_Mo_filterAll_169 : decode c_Mo_filterAll 169 = .ok (.iload 4, 2) := by decide +kernel
theorem d_Mo_filterAll_171 : decode c_Mo_filterAll 171 = .ok (.ifCond .ge 4, 3) := by decide +kernel
theorem d_Mo_filterAll_174 : decode c_Mo_filterAll 174 = .ok (.return_, 1) := by decide +kernel
theorem d_Mo_filterAll_175 : decode c_Mo_filterAll 175 = .ok (.aload_n 0, 1) := by decide +kernel
theorem d_Mo_filterAll_176 : decode c_Mo_filterAll 176 = .ok (.getfield 65, 3) := by decide +kernel
theorem d_Mo_filterAll_179 : decode c_Mo_filterAll 179 = .ok (.iload 4, 2) := by decide +kernel
theorem d_Mo_filterAll_181 : decode c_Mo_filterAll 181 = .ok (.iconst 1, 1) := by decide +kernel
theorem d_Mo_filterAll_182 : decode c_Mo_filterAll 182 = .ok (.bastore, 1) := by decide +kernel
theorem d_Mo_filterAll_183 : decode c_Mo_filterAll 183 = .ok (.aload_n 0, 1) := by decide +kernel
theorem d_Mo_filterAll_184 : decode c_Mo_filterAll 184 = .ok (.getfield 90, 3) := by decide +kernel
theorem d_Mo_filterAll_187 : decode c_Mo_filterAll 187 = .ok (.aload_n 0, 1) := by decide +kernel
theorem d_Mo_filterAll_188 : decode c_Mo_filterAll 188 = .ok (.getfield 259, 3) := by decide +kernel
theorem d_Mo_filterAll_191 : decode c_Mo_filterAll 191 = .ok (.iload 4, 2) := by decide +kernel
theorem d_Mo_filterAll_193 : decode c_Mo_filterAll 193 = .ok (.iastore, 1) := by decide +kernel
theorem d_Mo_filterAll_194 : decode c_Mo_filterAll 194 = .ok (.aload_n 0, 1) := by decide +kernel
theorem d_Mo_filterAll_195 : decode c_Mo_filterAll 195 = .ok (.dup, 1) := by decide +kernel
theorem d_Mo_filterAll_196 : decode c_Mo_filterAll 196 = .ok (.getfield 259, 3) := by decide +kernel
theorem d_Mo_filterAll_199 : decode c_Mo_filterAll 199 = .ok (.iconst 1, 1) := by decide +kernel
theorem d_Mo_filterAll_200 : decode c_Mo_filterAll 200 = .ok (.iadd, 1) := by decide +kernel
theorem d_Mo_filterAll_201 : decode c_Mo_filterAll 201 = .ok (.putfield 259, 3) := by decide +kernel
theorem d_Mo_filterAll_204 : decode c_Mo_filterAll 204 = .ok (.iload_n 1, 1) := by decide +kernel
theorem d_Mo_filterAll_205 : decode c_Mo_filterAll 205 = .ok (.iconst 2, 1) := by decide +kernel
theorem d_Mo_filterAll_206 : decode c_Mo_filterAll 206 = .ok (.if_icmp .ge 28, 3) := by decide +kernel
theorem d_Mo_filterAll_209 : decode c_Mo_filterAll 209 = .ok (.aload_n 0, 1) := by decide +kernel
theorem d_Mo_filterAll_210 : decode c_Mo_filterAll 210 = .ok (.getfield 59, 3) := by decide +kernel
theorem d_Mo_filterAll_213 : decode c_Mo_filterAll 213 = .ok (.iload 4, 2) := by decide +kernel
theorem d_Mo_filterAll_215 : decode c_Mo_filterAll 215 = .ok (.iaload, 1) := by decide +kernel
theorem d_Mo_filterAll_216 : decode c_Mo_filterAll 216 = .ok (.aload_n 0, 1) := by decide +kernel
theorem d_Mo_filterAll_217 : decode c_Mo_filterAll 217 = .ok (.getfield 262, 3) := by decide +kernel
theorem d_Mo_filterAll_220 : decode c_Mo_filterAll 220 = .ok (.if_icmp .ne 14, 3) := by decide +kernel
theorem d_Mo_filterAll_223 : decode c_Mo_filterAll 223 = .ok (.aload_n 0, 1) := by decide +kernel
theorem d_Mo_filterAll_224 : decode c_Mo_filterAll 224 = .ok (.aload_n 0, 1) := by decide +kernel
theorem d_Mo_filterAll_225 : decode c_Mo_filterAll 225 = .ok (.getfield 62, 3) := by decide +kernel
theorem d_Mo_filterAll_228 : decode c_Mo_filterAll 228 = .ok (.iload 4, 2) := by decide +kernel
theorem d_Mo_filterAll_230 : decode c_Mo_filterAll 230 = .ok (.iaload, 1) := by decide +kernel
theorem d_Mo_filterAll_231 : decode c_Mo_filterAll 231 = .ok (.invokevirtual 265, 3) := by decide +kernel
theorem d_Mo_filterAll_234 : decode c_Mo_filterAll 234 = .ok (.iinc 3 1, 3) := by decide +kernel
theorem d_Mo_filterAll_237 : decode c_Mo_filterAll 237 = .ok (.goto (-185), 3) := by decide +kernel
theorem d_Mo_filterAll_240 : decode c_Mo_filterAll 240 = .ok (.return_, 1) := by decide +kernel
set_option maxHeartbeats 4000000 in
set_option maxRecDepth 100000 in
theorem sn_Mo_filterAll_43 {l : Launch} {Γ : gk_G} {p : Program} {e : Env} {s : State} {m : MethodId} {args : Array Value} {below : List Frame} {meth : Method} {c : Code} (B : gk_B p s m args meth c gk_Y Γ c_Mo_filterAll 7 "StageDispatcherModel") (hr : meth.sig.returnType = none) {ρ : gk_M} {k2 : Option Nat → Int32 → Int32 → Int32 → gk_M → Option (gk_M)} (H2 : ∀ (a0 : Option Nat) (x1 : Int32) (x2 : Int32) (x3 : Int32) (M : gk_M), k2 a0 x1 x2 x3 M = some ρ → Gk p l e rm_Mo_filterAll s m args below meth c gk_Y Γ 7 (MQ below (gk_Q gk_Y Γ none ρ) args s rm_Mo_filterAll.cells rm_Mo_filterAll.slots (fun q => Γ.2.2 ≤ q)) 0 0 M 2 [some (va_rf a0), some (.int x1), some (.int x2), some (.int x3), none, none, none] []) {a0 : Option Nat} {x1 : Int32} {x2 : Int32} {x3 : Int32} {s0 : Option Nat} {s1 : Int32} {s2 : Int32} {M : gk_M} (h : fn_Mo_filterAll_43 k2 a0 x1 x2 x3 s0 s1 s2 M = some ρ) : Gk p l e rm_Mo_filterAll s m args below meth c gk_Y Γ 7 (MQ below (gk_Q gk_Y Γ none ρ) args s rm_Mo_filterAll.cells rm_Mo_filterAll.slots (fun q => Γ.2.2 ≤ q)) 0 0 M 43 [some (va_rf a0), some (.int x1), some (.int x2), some (.int x3), none, none, none] [.int s2, .int s1, va_rf s0] := by
  unfold fn_Mo_filterAll_43 at h
  obtain ⟨M43, h43, h⟩ := gk_bind h
  refine Gk_zastore B d_Mo_filterAll_43 ty_2 h43 ?_
  refine Gk_iinc (x := x3) (v := (x3 + 1)) (L' := [some (va_rf a0), some (.int x1), some (.int x2), some (.int (x3 + 1)), none, none, none]) B d_Mo_filterAll_44 rfl (congrArg (fun z => x3 + z) (by decide : Int32.ofInt 1 = 1)) (by decide) (gk_c1_i rfl) rfl ?_
  refine Gk_goto (tgt := 2) B d_Mo_filterAll_47 rfl ?_
  exact H2 a0 x1 x2 (x3 + 1) M43 h
set_option maxHeartbeats 4000000 in
set_option maxRecDepth 100000 in
theorem sn_Mo_filterAll_38 {l : Launch} {Γ : gk_G} {p : Program} {e : Env} {s : State} {m : MethodId} {args : Array Value} {below : List Frame} {meth : Method} {c : Code} (B : gk_B p s m args meth c gk_Y Γ c_Mo_filterAll 7 "StageDispatcherModel") (hr : meth.sig.returnType = none) {ρ : gk_M} {k2 : Option Nat → Int32 → Int32 → Int32 → gk_M → Option (gk_M)} (H2 : ∀ (a0 : Option Nat) (x1 : Int32) (x2 : Int32) (x3 : Int32) (M : gk_M), k2 a0 x1 x2 x3 M = some ρ → Gk p l e rm_Mo_filterAll s m args below meth c gk_Y Γ 7 (MQ below (gk_Q gk_Y Γ none ρ) args s rm_Mo_filterAll.cells rm_Mo_filterAll.slots (fun q => Γ.2.2 ≤ q)) 0 0 M 2 [some (va_rf a0), some (.int x1), some (.int x2), some (.int x3), none, none, none] []) {a0 : Option Nat} {x1 : Int32} {x2 : Int32} {x3 : Int32} {s0 : Option Nat} {s1 : Int32} {M : gk_M} (h : fn_Mo_filterAll_38 k2 a0 x1 x2 x3 s0 s1 M = some ρ) : Gk p l e rm_Mo_filterAll s m args below meth c gk_Y Γ 7 (MQ below (gk_Q gk_Y Γ none ρ) args s rm_Mo_filterAll.cells rm_Mo_filterAll.slots (fun q => Γ.2.2 ≤ q)) 0 0 M 38 [some (va_rf a0), some (.int x1), some (.int x2), some (.int x3), none, none, none] [.int s1, va_rf s0] := by
  unfold fn_Mo_filterAll_38 at h
  refine Gk_iconst (v := 1) B d_Mo_filterAll_38 (by decide) ?_
  refine Gk_goto (tgt := 43) B d_Mo_filterAll_39 rfl ?_
  exact sn_Mo_filterAll_43 B hr H2 h
set_option maxHeartbeats 4000000 in
set_option maxRecDepth 100000 in
theorem sn_Mo_filterAll_42 {l : Launch} {Γ : gk_G} {p : Program} {e : Env} {s : State} {m : MethodId} {args : Array Value} {below : List Frame} {meth : Method} {c : Code} (B : gk_B p s m args meth c gk_Y Γ c_Mo_filterAll 7 "StageDispatcherModel") (hr : meth.sig.returnType = none) {ρ : gk_M} {k2 : Option Nat → Int32 → Int32 → Int32 → gk_M → Option (gk_M)} (H2 : ∀ (a0 : Option Nat) (x1 : Int32) (x2 : Int32) (x3 : Int32) (M : gk_M), k2 a0 x1 x2 x3 M = some ρ → Gk p l e rm_Mo_filterAll s m args below meth c gk_Y Γ 7 (MQ below (gk_Q gk_Y Γ none ρ) args s rm_Mo_filterAll.cells rm_Mo_filterAll.slots (fun q => Γ.2.2 ≤ q)) 0 0 M 2 [some (va_rf a0), some (.int x1), some (.int x2), some (.int x3), none, none, none] []) {a0 : Option Nat} {x1 : Int32} {x2 : Int32} {x3 : Int32} {s0 : Option Nat} {s1 : Int32} {M : gk_M} (h : fn_Mo_filterAll_42 k2 a0 x1 x2 x3 s0 s1 M = some ρ) : Gk p l e rm_Mo_filterAll s m args below meth c gk_Y Γ 7 (MQ below (gk_Q gk_Y Γ none ρ) args s rm_Mo_filterAll.cells rm_Mo_filterAll.slots (fun q => Γ.2.2 ≤ q)) 0 0 M 42 [some (va_rf a0), some (.int x1), some (.int x2), some (.int x3), none, none, none] [.int s1, va_rf s0] := by
  unfold fn_Mo_filterAll_42 at h
  refine Gk_iconst (v := 0) B d_Mo_filterAll_42 (by decide) ?_
  exact sn_Mo_filterAll_43 B hr H2 h
set_option maxHeartbeats 4000000 in
set_option maxRecDepth 100000 in
theorem sn_Mo_filterAll_163 {l : Launch} {Γ : gk_G} {p : Program} {e : Env} {s : State} {m : MethodId} {args : Array Value} {below : List Frame} {meth : Method} {c : Code} (B : gk_B p s m args meth c gk_Y Γ c_Mo_filterAll 7 "StageDispatcherModel") (hr : meth.sig.returnType = none) {ρ : gk_M} {k52 : Option Nat → Int32 → Int32 → gk_M → Option (gk_M)} {k76 : Option Nat → Int32 → Int32 → Int32 → Int32 → gk_M → Option (gk_M)} (H52 : ∀ (a0 : Option Nat) (x1 : Int32) (x3 : Int32) (M : gk_M), k52 a0 x1 x3 M = some ρ → Gk p l e rm_Mo_filterAll s m args below meth c gk_Y Γ 7 (MQ below (gk_Q gk_Y Γ none ρ) args s rm_Mo_filterAll.cells rm_Mo_filterAll.slots (fun q => Γ.2.2 ≤ q)) 0 0 M 52 [some (va_rf a0), some (.int x1), none, some (.int x3), none, none, none] []) (H76 : ∀ (a0 : Option Nat) (x1 : Int32) (x3 : Int32) (x4 : Int32) (x5 : Int32) (M : gk_M), k76 a0 x1 x3 x4 x5 M = some ρ → Gk p l e rm_Mo_filterAll s m args below meth c gk_Y Γ 7 (MQ below (gk_Q gk_Y Γ none ρ) args s rm_Mo_filterAll.cells rm_Mo_filterAll.slots (fun q => Γ.2.2 ≤ q)) 0 0 M 76 [some (va_rf a0), some (.int x1), none, some (.int x3), some (.int x4), some (.int x5), none] []) {a0 : Option Nat} {x1 : Int32} {x3 : Int32} {x4 : Int32} {x5 : Int32} {M : gk_M} (h : fn_Mo_filterAll_163 k52 k76 a0 x1 x3 x4 x5 M = some ρ) : Gk p l e rm_Mo_filterAll s m args below meth c gk_Y Γ 7 (MQ below (gk_Q gk_Y Γ none ρ) args s rm_Mo_filterAll.cells rm_Mo_filterAll.slots (fun q => Γ.2.2 ≤ q)) 0 0 M 163 [some (va_rf a0), some (.int x1), none, some (.int x3), some (.int x4), some (.int x5), none] [] := by
  unfold fn_Mo_filterAll_163 at h
  refine Gk_iinc (x := x5) (v := (x5 + 1)) (L' := [some (va_rf a0), some (.int x1), none, some (.int x3), some (.int x4), some (.int (x5 + 1)), none]) B d_Mo_filterAll_163 rfl (congrArg (fun z => x5 + z) (by decide : Int32.ofInt 1 = 1)) (by decide) (gk_c1_i rfl) rfl ?_
  refine Gk_goto (tgt := 76) B d_Mo_filterAll_166 rfl ?_
  exact H76 a0 x1 x3 x4 (x5 + 1) M h
set_option maxHeartbeats 4000000 in
set_option maxRecDepth 100000 in
theorem sn_Mo_filterAll_159 {l : Launch} {Γ : gk_G} {p : Program} {e : Env} {s : State} {m : MethodId} {args : Array Value} {below : List Frame} {meth : Method} {c : Code} (B : gk_B p s m args meth c gk_Y Γ c_Mo_filterAll 7 "StageDispatcherModel") (hr : meth.sig.returnType = none) {ρ : gk_M} {k52 : Option Nat → Int32 → Int32 → gk_M → Option (gk_M)} {k76 : Option Nat → Int32 → Int32 → Int32 → Int32 → gk_M → Option (gk_M)} (H52 : ∀ (a0 : Option Nat) (x1 : Int32) (x3 : Int32) (M : gk_M), k52 a0 x1 x3 M = some ρ → Gk p l e rm_Mo_filterAll s m args below meth c gk_Y Γ 7 (MQ below (gk_Q gk_Y Γ none ρ) args s rm_Mo_filterAll.cells rm_Mo_filterAll.slots (fun q => Γ.2.2 ≤ q)) 0 0 M 52 [some (va_rf a0), some (.int x1), none, some (.int x3), none, none, none] []) (H76 : ∀ (a0 : Option Nat) (x1 : Int32) (x3 : Int32) (x4 : Int32) (x5 : Int32) (M : gk_M), k76 a0 x1 x3 x4 x5 M = some ρ → Gk p l e rm_Mo_filterAll s m args below meth c gk_Y Γ 7 (MQ below (gk_Q gk_Y Γ none ρ) args s rm_Mo_filterAll.cells rm_Mo_filterAll.slots (fun q => Γ.2.2 ≤ q)) 0 0 M 76 [some (va_rf a0), some (.int x1), none, some (.int x3), some (.int x4), some (.int x5), none] []) {a0 : Option Nat} {x1 : Int32} {x3 : Int32} {x5 : Int32} {M : gk_M} (h : fn_Mo_filterAll_159 k52 k76 a0 x1 x3 x5 M = some ρ) : Gk p l e rm_Mo_filterAll s m args below meth c gk_Y Γ 7 (MQ below (gk_Q gk_Y Γ none ρ) args s rm_Mo_filterAll.cells rm_Mo_filterAll.slots (fun q => Γ.2.2 ≤ q)) 0 0 M 159 [some (va_rf a0), some (.int x1), none, some (.int x3), none, some (.int x5), none] [] := by
  unfold fn_Mo_filterAll_159 at h
  refine Gk_iload (x := x5) B d_Mo_filterAll_159 rfl ?_
  refine Gk_istore (L' := [some (va_rf a0), some (.int x1), none, some (.int x3), some (.int x5), some (.int x5), none]) B d_Mo_filterAll_161 (by decide) (gk_c1_i rfl) rfl ?_
  exact sn_Mo_filterAll_163 B hr H52 H76 h
set_option maxHeartbeats 4000000 in
set_option maxRecDepth 100000 in
theorem sn_Mo_filterAll_137 {l : Launch} {Γ : gk_G} {p : Program} {e : Env} {s : State} {m : MethodId} {args : Array Value} {below : List Frame} {meth : Method} {c : Code} (B : gk_B p s m args meth c gk_Y Γ c_Mo_filterAll 7 "StageDispatcherModel") (hr : meth.sig.returnType = none) {ρ : gk_M} {k52 : Option Nat → Int32 → Int32 → gk_M → Option (gk_M)} {k76 : Option Nat → Int32 → Int32 → Int32 → Int32 → gk_M → Option (gk_M)} (H52 : ∀ (a0 : Option Nat) (x1 : Int32) (x3 : Int32) (M : gk_M), k52 a0 x1 x3 M = some ρ → Gk p l e rm_Mo_filterAll s m args below meth c gk_Y Γ 7 (MQ below (gk_Q gk_Y Γ none ρ) args s rm_Mo_filterAll.cells rm_Mo_filterAll.slots (fun q => Γ.2.2 ≤ q)) 0 0 M 52 [some (va_rf a0), some (.int x1), none, some (.int x3), none, none, none] []) (H76 : ∀ (a0 : Option Nat) (x1 : Int32) (x3 : Int32) (x4 : Int32) (x5 : Int32) (M : gk_M), k76 a0 x1 x3 x4 x5 M = some ρ → Gk p l e rm_Mo_filterAll s m args below meth c gk_Y Γ 7 (MQ below (gk_Q gk_Y Γ none ρ) args s rm_Mo_filterAll.cells rm_Mo_filterAll.slots (fun q => Γ.2.2 ≤ q)) 0 0 M 76 [some (va_rf a0), some (.int x1), none, some (.int x3), some (.int x4), some (.int x5), none] []) {a0 : Option Nat} {x1 : Int32} {x3 : Int32} {x4 : Int32} {x5 : Int32} {s0 : Int32} {M : gk_M} (h : fn_Mo_filterAll_137 k52 k76 a0 x1 x3 x4 x5 s0 M = some ρ) : Gk p l e rm_Mo_filterAll s m args below meth c gk_Y Γ 7 (MQ below (gk_Q gk_Y Γ none ρ) args s rm_Mo_filterAll.cells rm_Mo_filterAll.slots (fun q => Γ.2.2 ≤ q)) 0 0 M 137 [some (va_rf a0), some (.int x1), none, some (.int x3), some (.int x4), some (.int x5), none] [.int s0] := by
  unfold fn_Mo_filterAll_137 at h
  refine Gk_istore (L' := [some (va_rf a0), some (.int x1), none, some (.int x3), some (.int x4), some (.int x5), some (.int s0)]) B d_Mo_filterAll_137 (by decide) (gk_c1_i rfl) rfl ?_
  refine Gk_aload_n (i := 0) (r := a0) B d_Mo_filterAll_139 rfl rfl ?_
  obtain ⟨v140, h140, h⟩ := gk_bind h
  refine Gk_getR (j := 23) B d_Mo_filterAll_140 in_Mo cl_Mo (by decide) tw_778 rfl h140 ?_
  refine Gk_iload (x := x5) B d_Mo_filterAll_143 rfl ?_
  obtain ⟨v145, h145, h⟩ := gk_bind h
  refine Gk_zaload B d_Mo_filterAll_145 ty_2 h145 ?_
  refine Gk_if_ne (tgt := 163) B d_Mo_filterAll_146 rfl (fun c146 => ?_) (fun c146 => ?_)
  · rw [if_neg c146] at h
    refine Gk_weak [true, true, false, true, true, true, false] (L' := [some (va_rf a0), some (.int x1), none, some (.int x3), some (.int x4), some (.int x5), none]) rfl ?_
    exact sn_Mo_filterAll_163 B hr H52 H76 h
  rw [if_pos c146] at h
  refine Gk_iload (x := x4) B d_Mo_filterAll_149 rfl ?_
  refine Gk_if_lt (tgt := 159) B d_Mo_filterAll_151 rfl (fun c151 => ?_) (fun c151 => ?_)
  · rw [if_pos c151] at h
    refine Gk_weak [true, true, false, true, false, true, false] (L' := [some (va_rf a0), some (.int x1), none, some (.int x3), none, some (.int x5), none]) rfl ?_
    exact sn_Mo_filterAll_159 B hr H52 H76 h
  rw [if_neg c151] at h
  refine Gk_iload (x := s0) B d_Mo_filterAll_154 rfl ?_
  refine Gk_if_eq (tgt := 163) B d_Mo_filterAll_156 rfl (fun c156 => ?_) (fun c156 => ?_)
  · rw [if_pos c156] at h
    refine Gk_weak [true, true, false, true, true, true, false] (L' := [some (va_rf a0), some (.int x1), none, some (.int x3), some (.int x4), some (.int x5), none]) rfl ?_
    exact sn_Mo_filterAll_163 B hr H52 H76 h
  rw [if_neg c156] at h
  refine Gk_weak [true, true, false, true, false, true, false] (L' := [some (va_rf a0), some (.int x1), none, some (.int x3), none, some (.int x5), none]) rfl ?_
  exact sn_Mo_filterAll_159 B hr H52 H76 h
set_option maxHeartbeats 4000000 in
set_option maxRecDepth 100000 in
theorem sn_Mo_filterAll_136 {l : Launch} {Γ : gk_G} {p : Program} {e : Env} {s : State} {m : MethodId} {args : Array Value} {below : List Frame} {meth : Method} {c : Code} (B : gk_B p s m args meth c gk_Y Γ c_Mo_filterAll 7 "StageDispatcherModel") (hr : meth.sig.returnType = none) {ρ : gk_M} {k52 : Option Nat → Int32 → Int32 → gk_M → Option (gk_M)} {k76 : Option Nat → Int32 → Int32 → Int32 → Int32 → gk_M → Option (gk_M)} (H52 : ∀ (a0 : Option Nat) (x1 : Int32) (x3 : Int32) (M : gk_M), k52 a0 x1 x3 M = some ρ → Gk p l e rm_Mo_filterAll s m args below meth c gk_Y Γ 7 (MQ below (gk_Q gk_Y Γ none ρ) args s rm_Mo_filterAll.cells rm_Mo_filterAll.slots (fun q => Γ.2.2 ≤ q)) 0 0 M 52 [some (va_rf a0), some (.int x1), none, some (.int x3), none, none, none] []) (H76 : ∀ (a0 : Option Nat) (x1 : Int32) (x3 : Int32) (x4 : Int32) (x5 : Int32) (M : gk_M), k76 a0 x1 x3 x4 x5 M = some ρ → Gk p l e rm_Mo_filterAll s m args below meth c gk_Y Γ 7 (MQ below (gk_Q gk_Y Γ none ρ) args s rm_Mo_filterAll.cells rm_Mo_filterAll.slots (fun q => Γ.2.2 ≤ q)) 0 0 M 76 [some (va_rf a0), some (.int x1), none, some (.int x3), some (.int x4), some (.int x5), none] []) {a0 : Option Nat} {x1 : Int32} {x3 : Int32} {x4 : Int32} {x5 : Int32} {M : gk_M} (h : fn_Mo_filterAll_136 k52 k76 a0 x1 x3 x4 x5 M = some ρ) : Gk p l e rm_Mo_filterAll s m args below meth c gk_Y Γ 7 (MQ below (gk_Q gk_Y Γ none ρ) args s rm_Mo_filterAll.cells rm_Mo_filterAll.slots (fun q => Γ.2.2 ≤ q)) 0 0 M 136 [some (va_rf a0), some (.int x1), none, some (.int x3), some (.int x4), some (.int x5), none] [] := by
  unfold fn_Mo_filterAll_136 at h
  refine Gk_iconst (v := 0) B d_Mo_filterAll_136 (by decide) ?_
  exact sn_Mo_filterAll_137 B hr H52 H76 h
set_option maxHeartbeats 4000000 in
set_option maxRecDepth 100000 in
theorem sn_Mo_filterAll_132 {l : Launch} {Γ : gk_G} {p : Program} {e : Env} {s : State} {m : MethodId} {args : Array Value} {below : List Frame} {meth : Method} {c : Code} (B : gk_B p s m args meth c gk_Y Γ c_Mo_filterAll 7 "StageDispatcherModel") (hr : meth.sig.returnType = none) {ρ : gk_M} {k52 : Option Nat → Int32 → Int32 → gk_M → Option (gk_M)} {k76 : Option Nat → Int32 → Int32 → Int32 → Int32 → gk_M → Option (gk_M)} (H52 : ∀ (a0 : Option Nat) (x1 : Int32) (x3 : Int32) (M : gk_M), k52 a0 x1 x3 M = some ρ → Gk p l e rm_Mo_filterAll s m args below meth c gk_Y Γ 7 (MQ below (gk_Q gk_Y Γ none ρ) args s rm_Mo_filterAll.cells rm_Mo_filterAll.slots (fun q => Γ.2.2 ≤ q)) 0 0 M 52 [some (va_rf a0), some (.int x1), none, some (.int x3), none, none, none] []) (H76 : ∀ (a0 : Option Nat) (x1 : Int32) (x3 : Int32) (x4 : Int32) (x5 : Int32) (M : gk_M), k76 a0 x1 x3 x4 x5 M = some ρ → Gk p l e rm_Mo_filterAll s m args below meth c gk_Y Γ 7 (MQ below (gk_Q gk_Y Γ none ρ) args s rm_Mo_filterAll.cells rm_Mo_filterAll.slots (fun q => Γ.2.2 ≤ q)) 0 0 M 76 [some (va_rf a0), some (.int x1), none, some (.int x3), some (.int x4), some (.int x5), none] []) {a0 : Option Nat} {x1 : Int32} {x3 : Int32} {x4 : Int32} {x5 : Int32} {M : gk_M} (h : fn_Mo_filterAll_132 k52 k76 a0 x1 x3 x4 x5 M = some ρ) : Gk p l e rm_Mo_filterAll s m args below meth c gk_Y Γ 7 (MQ below (gk_Q gk_Y Γ none ρ) args s rm_Mo_filterAll.cells rm_Mo_filterAll.slots (fun q => Γ.2.2 ≤ q)) 0 0 M 132 [some (va_rf a0), some (.int x1), none, some (.int x3), some (.int x4), some (.int x5), none] [] := by
  unfold fn_Mo_filterAll_132 at h
  refine Gk_iconst (v := 1) B d_Mo_filterAll_132 (by decide) ?_
  refine Gk_goto (tgt := 137) B d_Mo_filterAll_133 rfl ?_
  exact sn_Mo_filterAll_137 B hr H52 H76 h
set_option maxHeartbeats 4000000 in
set_option maxRecDepth 100000 in
theorem sn_Mo_filterAll_234 {l : Launch} {Γ : gk_G} {p : Program} {e : Env} {s : State} {m : MethodId} {args : Array Value} {below : List Frame} {meth : Method} {c : Code} (B : gk_B p s m args meth c gk_Y Γ c_Mo_filterAll 7 "StageDispatcherModel") (hr : meth.sig.returnType = none) {ρ : gk_M} {k52 : Option Nat → Int32 → Int32 → gk_M → Option (gk_M)} (H52 : ∀ (a0 : Option Nat) (x1 : Int32) (x3 : Int32) (M : gk_M), k52 a0 x1 x3 M = some ρ → Gk p l e rm_Mo_filterAll s m args below meth c gk_Y Γ 7 (MQ below (gk_Q gk_Y Γ none ρ) args s rm_Mo_filterAll.cells rm_Mo_filterAll.slots (fun q => Γ.2.2 ≤ q)) 0 0 M 52 [some (va_rf a0), some (.int x1), none, some (.int x3), none, none, none] []) {a0 : Option Nat} {x1 : Int32} {x3 : Int32} {M : gk_M} (h : fn_Mo_filterAll_234 k52 a0 x1 x3 M = some ρ) : Gk p l e rm_Mo_filterAll s m args below meth c gk_Y Γ 7 (MQ below (gk_Q gk_Y Γ none ρ) args s rm_Mo_filterAll.cells rm_Mo_filterAll.slots (fun q => Γ.2.2 ≤ q)) 0 0 M 234 [some (va_rf a0), some (.int x1), none, some (.int x3), none, none, none] [] := by
  unfold fn_Mo_filterAll_234 at h
  refine Gk_iinc (x := x3) (v := (x3 + 1)) (L' := [some (va_rf a0), some (.int x1), none, some (.int (x3 + 1)), none, none, none]) B d_Mo_filterAll_234 rfl (congrArg (fun z => x3 + z) (by decide : Int32.ofInt 1 = 1)) (by decide) (gk_c1_n rfl) rfl ?_
  refine Gk_goto (tgt := 52) B d_Mo_filterAll_237 rfl ?_
  exact H52 a0 x1 (x3 + 1) M h
set_option maxHeartbeats 4000000 in
set_option maxRecDepth 100000 in
theorem sn_Mo_filterAll_76_bd {l : Launch} {Γ : gk_G} {p : Program} {e : Env} {s : State} {m : MethodId} {args : Array Value} {below : List Frame} {meth : Method} {c : Code} (B : gk_B p s m args meth c gk_Y Γ c_Mo_filterAll 7 "StageDispatcherModel") (hr : meth.sig.returnType = none) {ρ : gk_M} {k52 : Option Nat → Int32 → Int32 → gk_M → Option (gk_M)} {k76 : Option Nat → Int32 → Int32 → Int32 → Int32 → gk_M → Option (gk_M)} (H52 : ∀ (a0 : Option Nat) (x1 : Int32) (x3 : Int32) (M : gk_M), k52 a0 x1 x3 M = some ρ → Gk p l e rm_Mo_filterAll s m args below meth c gk_Y Γ 7 (MQ below (gk_Q gk_Y Γ none ρ) args s rm_Mo_filterAll.cells rm_Mo_filterAll.slots (fun q => Γ.2.2 ≤ q)) 0 0 M 52 [some (va_rf a0), some (.int x1), none, some (.int x3), none, none, none] []) (H76 : ∀ (a0 : Option Nat) (x1 : Int32) (x3 : Int32) (x4 : Int32) (x5 : Int32) (M : gk_M), k76 a0 x1 x3 x4 x5 M = some ρ → Gk p l e rm_Mo_filterAll s m args below meth c gk_Y Γ 7 (MQ below (gk_Q gk_Y Γ none ρ) args s rm_Mo_filterAll.cells rm_Mo_filterAll.slots (fun q => Γ.2.2 ≤ q)) 0 0 M 76 [some (va_rf a0), some (.int x1), none, some (.int x3), some (.int x4), some (.int x5), none] []) {a0 : Option Nat} {x1 : Int32} {x3 : Int32} {x4 : Int32} {x5 : Int32} {M : gk_M} (h : fn_Mo_filterAll_76_bd k52 k76 a0 x1 x3 x4 x5 M = some ρ) : Gk p l e rm_Mo_filterAll s m args below meth c gk_Y Γ 7 (MQ below (gk_Q gk_Y Γ none ρ) args s rm_Mo_filterAll.cells rm_Mo_filterAll.slots (fun q => Γ.2.2 ≤ q)) 0 0 M 76 [some (va_rf a0), some (.int x1), none, some (.int x3), some (.int x4), some (.int x5), none] [] := by
  unfold fn_Mo_filterAll_76_bd at h
  refine Gk_iload (x := x5) B d_Mo_filterAll_76 rfl ?_
  refine Gk_aload_n (i := 0) (r := a0) B d_Mo_filterAll_78 rfl rfl ?_
  obtain ⟨v79, h79, h⟩ := gk_bind h
  refine Gk_getI (j := 17) B d_Mo_filterAll_79 in_Mo cl_Mo (by decide) tw_772 rfl h79 ?_
  refine Gk_icmp_ge (tgt := 169) B d_Mo_filterAll_82 rfl (fun c82 => ?_) (fun c82 => ?_)
  · rw [if_pos c82] at h
    refine Gk_iload (x := x4) B d_Mo_filterAll_169 rfl ?_
    refine Gk_if_ge (tgt := 175) B d_Mo_filterAll_171 rfl (fun c171 => ?_) (fun c171 => ?_)
    · rw [if_pos c171] at h
      refine Gk_aload_n (i := 0) (r := a0) B d_Mo_filterAll_175 rfl rfl ?_
      obtain ⟨v176, h176, h⟩ := gk_bind h
      refine Gk_getR (j := 23) B d_Mo_filterAll_176 in_Mo cl_Mo (by decide) tw_778 rfl h176 ?_
      refine Gk_iload (x := x4) B d_Mo_filterAll_179 rfl ?_
      refine Gk_iconst (v := 1) B d_Mo_filterAll_181 (by decide) ?_
      obtain ⟨M182, h182, h⟩ := gk_bind h
      refine Gk_zastore B d_Mo_filterAll_182 ty_2 h182 ?_
      refine Gk_aload_n (i := 0) (r := a0) B d_Mo_filterAll_183 rfl rfl ?_
      obtain ⟨v184, h184, h⟩ := gk_bind h
      refine Gk_getR (j := 46) B d_Mo_filterAll_184 in_Mo cl_Mo (by decide) tw_801 rfl h184 ?_
      refine Gk_aload_n (i := 0) (r := a0) B d_Mo_filterAll_187 rfl rfl ?_
      obtain ⟨v188, h188, h⟩ := gk_bind h
      refine Gk_getI (j := 45) B d_Mo_filterAll_188 in_Mo cl_Mo (by decide) tw_800 rfl h188 ?_
      refine Gk_iload (x := x4) B d_Mo_filterAll_191 rfl ?_
      obtain ⟨M193, h193, h⟩ := gk_bind h
      refine Gk_iastore B d_Mo_filterAll_193 ty_0 h193 ?_
      refine Gk_aload_n (i := 0) (r := a0) B d_Mo_filterAll_194 rfl rfl ?_
      refine Gk_dup B d_Mo_filterAll_195 (gk_rc _) ?_
      obtain ⟨v196, h196, h⟩ := gk_bind h
      refine Gk_getI (j := 45) B d_Mo_filterAll_196 in_Mo cl_Mo (by decide) tw_800 rfl h196 ?_
      refine Gk_iconst (v := 1) B d_Mo_filterAll_199 (by decide) ?_
      refine Gk_iadd B d_Mo_filterAll_200 ?_
      obtain ⟨M201, h201, h⟩ := gk_bind h
      refine Gk_put (j := 45) (ty := .int) B d_Mo_filterAll_201 in_Mo t_Mo t_Mo_ok n_Mo cl_Mo (by decide) tw_800 rfl rfl rfl rfl rfl h201 ?_
      refine Gk_iload_n (i := 1) (x := x1) B d_Mo_filterAll_204 rfl rfl ?_
      refine Gk_iconst (v := 2) B d_Mo_filterAll_205 (by decide) ?_
      refine Gk_icmp_ge (tgt := 234) B d_Mo_filterAll_206 rfl (fun c206 => ?_) (fun c206 => ?_)
      · rw [if_pos c206] at h
        refine Gk_weak [true, true, false, true, false, false, false] (L' := [some (va_rf a0), some (.int x1), none, some (.int x3), none, none, none]) rfl ?_
        exact sn_Mo_filterAll_234 B hr H52 h
      rw [if_neg c206] at h
      refine Gk_aload_n (i := 0) (r := a0) B d_Mo_filterAll_209 rfl rfl ?_
      obtain ⟨v210, h210, h⟩ := gk_bind h
      refine Gk_getR (j := 21) B d_Mo_filterAll_210 in_Mo cl_Mo (by decide) tw_776 rfl h210 ?_
      refine Gk_iload (x := x4) B d_Mo_filterAll_213 rfl ?_
      obtain ⟨v215, h215, h⟩ := gk_bind h
      refine Gk_iaload B d_Mo_filterAll_215 ty_0 h215 ?_
      refine Gk_aload_n (i := 0) (r := a0) B d_Mo_filterAll_216 rfl rfl ?_
      obtain ⟨v217, h217, h⟩ := gk_bind h
      refine Gk_getI (j := 31) B d_Mo_filterAll_217 in_Mo cl_Mo (by decide) tw_786 rfl h217 ?_
      refine Gk_icmp_ne (tgt := 234) B d_Mo_filterAll_220 rfl (fun c220 => ?_) (fun c220 => ?_)
      · rw [if_neg c220] at h
        refine Gk_weak [true, true, false, true, false, false, false] (L' := [some (va_rf a0), some (.int x1), none, some (.int x3), none, none, none]) rfl ?_
        exact sn_Mo_filterAll_234 B hr H52 h
      rw [if_pos c220] at h
      refine Gk_aload_n (i := 0) (r := a0) B d_Mo_filterAll_223 rfl rfl ?_
      refine Gk_aload_n (i := 0) (r := a0) B d_Mo_filterAll_224 rfl rfl ?_
      obtain ⟨v225, h225, h⟩ := gk_bind h
      refine Gk_getR (j := 22) B d_Mo_filterAll_225 in_Mo cl_Mo (by decide) tw_777 rfl h225 ?_
      refine Gk_iload (x := x4) B d_Mo_filterAll_228 rfl ?_
      obtain ⟨v230, h230, h⟩ := gk_bind h
      refine Gk_iaload B d_Mo_filterAll_230 ty_0 h230 ?_
      obtain ⟨o231, g231, h⟩ := gk_bind h
      obtain ⟨w231, h231, h⟩ := gk_bind h
      refine Gk_callV (As := [.int v230]) (rest := []) (st1 := []) (k1 := 0) (n1 := 0) B gk_hG d_Mo_filterAll_231 (sn_Mo_meetHeader h231) g231 cl_Mo tw_993 tw_990 tw_992 tw_18 tw_48 nm_Mo_meetHeader rfl (by decide) ⟨by decide, by decide⟩ ⟨by decide, by decide⟩ rfl rfl rfl rfl ?_
      refine Gk_weak [true, true, false, true, false, false, false] (L' := [some (va_rf a0), some (.int x1), none, some (.int x3), none, none, none]) rfl ?_
      exact sn_Mo_filterAll_234 B hr H52 h
    rw [if_neg c171] at h
    cases h
    exact Gk_vret B hr d_Mo_filterAll_174 (by decide) (by decide) rfl
  rw [if_neg c82] at h
  refine Gk_iload (x := x4) B d_Mo_filterAll_85 rfl ?_
  refine Gk_if_lt (tgt := 136) B d_Mo_filterAll_87 rfl (fun c87 => ?_) (fun c87 => ?_)
  · rw [if_pos c87] at h
    exact sn_Mo_filterAll_136 B hr H52 H76 h
  rw [if_neg c87] at h
  refine Gk_iload_n (i := 1) (x := x1) B d_Mo_filterAll_90 rfl rfl ?_
  refine Gk_iconst (v := 2) B d_Mo_filterAll_91 (by decide) ?_
  refine Gk_icmp_ge (tgt := 115) B d_Mo_filterAll_92 rfl (fun c92 => ?_) (fun c92 => ?_)
  · rw [if_pos c92] at h
    refine Gk_aload_n (i := 0) (r := a0) B d_Mo_filterAll_115 rfl rfl ?_
    obtain ⟨v116, h116, h⟩ := gk_bind h
    refine Gk_getR (j := 18) B d_Mo_filterAll_116 in_Mo cl_Mo (by decide) tw_773 rfl h116 ?_
    refine Gk_iload (x := x5) B d_Mo_filterAll_119 rfl ?_
    obtain ⟨v121, h121, h⟩ := gk_bind h
    refine Gk_iaload B d_Mo_filterAll_121 ty_0 h121 ?_
    refine Gk_aload_n (i := 0) (r := a0) B d_Mo_filterAll_122 rfl rfl ?_
    obtain ⟨v123, h123, h⟩ := gk_bind h
    refine Gk_getR (j := 18) B d_Mo_filterAll_123 in_Mo cl_Mo (by decide) tw_773 rfl h123 ?_
    refine Gk_iload (x := x4) B d_Mo_filterAll_126 rfl ?_
    obtain ⟨v128, h128, h⟩ := gk_bind h
    refine Gk_iaload B d_Mo_filterAll_128 ty_0 h128 ?_
    refine Gk_icmp_le (tgt := 136) B d_Mo_filterAll_129 rfl (fun c129 => ?_) (fun c129 => ?_)
    · rw [if_pos c129] at h
      exact sn_Mo_filterAll_136 B hr H52 H76 h
    rw [if_neg c129] at h
    exact sn_Mo_filterAll_132 B hr H52 H76 h
  rw [if_neg c92] at h
  refine Gk_aload_n (i := 0) (r := a0) B d_Mo_filterAll_95 rfl rfl ?_
  obtain ⟨v96, h96, h⟩ := gk_bind h
  refine Gk_getR (j := 18) B d_Mo_filterAll_96 in_Mo cl_Mo (by decide) tw_773 rfl h96 ?_
  refine Gk_iload (x := x5) B d_Mo_filterAll_99 rfl ?_
  obtain ⟨v101, h101, h⟩ := gk_bind h
  refine Gk_iaload B d_Mo_filterAll_101 ty_0 h101 ?_
  refine Gk_aload_n (i := 0) (r := a0) B d_Mo_filterAll_102 rfl rfl ?_
  obtain ⟨v103, h103, h⟩ := gk_bind h
  refine Gk_getR (j := 18) B d_Mo_filterAll_103 in_Mo cl_Mo (by decide) tw_773 rfl h103 ?_
  refine Gk_iload (x := x4) B d_Mo_filterAll_106 rfl ?_
  obtain ⟨v108, h108, h⟩ := gk_bind h
  refine Gk_iaload B d_Mo_filterAll_108 ty_0 h108 ?_
  refine Gk_icmp_ge (tgt := 136) B d_Mo_filterAll_109 rfl (fun c109 => ?_) (fun c109 => ?_)
  · rw [if_pos c109] at h
    exact sn_Mo_filterAll_136 B hr H52 H76 h
  rw [if_neg c109] at h
  refine Gk_goto (tgt := 132) B d_Mo_filterAll_112 rfl ?_
  exact sn_Mo_filterAll_132 B hr H52 H76 h
set_option maxHeartbeats 4000000 in
set_option maxRecDepth 100000 in
theorem sn_Mo_filterAll_76 {l : Launch} {Γ : gk_G} {p : Program} {e : Env} {s : State} {m : MethodId} {args : Array Value} {below : List Frame} {meth : Method} {c : Code} (B : gk_B p s m args meth c gk_Y Γ c_Mo_filterAll 7 "StageDispatcherModel") (hr : meth.sig.returnType = none) {ρ : gk_M} {k52 : Option Nat → Int32 → Int32 → gk_M → Option (gk_M)} (H52 : ∀ (a0 : Option Nat) (x1 : Int32) (x3 : Int32) (M : gk_M), k52 a0 x1 x3 M = some ρ → Gk p l e rm_Mo_filterAll s m args below meth c gk_Y Γ 7 (MQ below (gk_Q gk_Y Γ none ρ) args s rm_Mo_filterAll.cells rm_Mo_filterAll.slots (fun q => Γ.2.2 ≤ q)) 0 0 M 52 [some (va_rf a0), some (.int x1), none, some (.int x3), none, none, none] []) {a0 : Option Nat} {x1 : Int32} {x3 : Int32} {x4 : Int32} {x5 : Int32} {M : gk_M} (h : fn_Mo_filterAll_76 k52 a0 x1 x3 x4 x5 M = some ρ) : Gk p l e rm_Mo_filterAll s m args below meth c gk_Y Γ 7 (MQ below (gk_Q gk_Y Γ none ρ) args s rm_Mo_filterAll.cells rm_Mo_filterAll.slots (fun q => Γ.2.2 ≤ q)) 0 0 M 76 [some (va_rf a0), some (.int x1), none, some (.int x3), some (.int x4), some (.int x5), none] [] := by
  unfold fn_Mo_filterAll_76 at h
  exact gk_loop_sound (α := Option Nat × Int32 × Int32 × Int32 × Int32 × gk_M) (P := fun a => Gk p l e rm_Mo_filterAll s m args below meth c gk_Y Γ 7 (MQ below (gk_Q gk_Y Γ none ρ) args s rm_Mo_filterAll.cells rm_Mo_filterAll.slots (fun q => Γ.2.2 ≤ q)) 0 0 a.2.2.2.2.2 76 [some (va_rf a.1), some (.int a.2.1), none, some (.int a.2.2.1), some (.int a.2.2.2.1), some (.int a.2.2.2.2.1), none] []) (fun kk a Hk hb => sn_Mo_filterAll_76_bd B hr H52 (fun a0 x1 x3 x4 x5 M hh => Hk (a0, x1, x3, x4, x5, M) hh) hb) _ _ h
set_option maxHeartbeats 4000000 in
set_option maxRecDepth 100000 in
theorem sn_Mo_filterAll_70 {l : Launch} {Γ : gk_G} {p : Program} {e : Env} {s : State} {m : MethodId} {args : Array Value} {below : List Frame} {meth : Method} {c : Code} (B : gk_B p s m args meth c gk_Y Γ c_Mo_filterAll 7 "StageDispatcherModel") (hr : meth.sig.returnType = none) {ρ : gk_M} {k52 : Option Nat → Int32 → Int32 → gk_M → Option (gk_M)} (H52 : ∀ (a0 : Option Nat) (x1 : Int32) (x3 : Int32) (M : gk_M), k52 a0 x1 x3 M = some ρ → Gk p l e rm_Mo_filterAll s m args below meth c gk_Y Γ 7 (MQ below (gk_Q gk_Y Γ none ρ) args s rm_Mo_filterAll.cells rm_Mo_filterAll.slots (fun q => Γ.2.2 ≤ q)) 0 0 M 52 [some (va_rf a0), some (.int x1), none, some (.int x3), none, none, none] []) {a0 : Option Nat} {x1 : Int32} {x3 : Int32} {M : gk_M} (h : fn_Mo_filterAll_70 k52 a0 x1 x3 M = some ρ) : Gk p l e rm_Mo_filterAll s m args below meth c gk_Y Γ 7 (MQ below (gk_Q gk_Y Γ none ρ) args s rm_Mo_filterAll.cells rm_Mo_filterAll.slots (fun q => Γ.2.2 ≤ q)) 0 0 M 70 [some (va_rf a0), some (.int x1), none, some (.int x3), none, none, none] [] := by
  unfold fn_Mo_filterAll_70 at h
  refine Gk_iconst (v := (-1)) B d_Mo_filterAll_70 (by decide) ?_
  refine Gk_istore (L' := [some (va_rf a0), some (.int x1), none, some (.int x3), some (.int (-1)), none, none]) B d_Mo_filterAll_71 (by decide) (gk_c1_i rfl) rfl ?_
  refine Gk_iconst (v := 0) B d_Mo_filterAll_73 (by decide) ?_
  refine Gk_istore (L' := [some (va_rf a0), some (.int x1), none, some (.int x3), some (.int (-1)), some (.int 0), none]) B d_Mo_filterAll_74 (by decide) (gk_c1_i rfl) rfl ?_
  exact sn_Mo_filterAll_76 B hr H52 h
set_option maxHeartbeats 4000000 in
set_option maxRecDepth 100000 in
theorem sn_Mo_filterAll_52_bd {l : Launch} {Γ : gk_G} {p : Program} {e : Env} {s : State} {m : MethodId} {args : Array Value} {below : List Frame} {meth : Method} {c : Code} (B : gk_B p s m args meth c gk_Y Γ c_Mo_filterAll 7 "StageDispatcherModel") (hr : meth.sig.returnType = none) {ρ : gk_M} {k52 : Option Nat → Int32 → Int32 → gk_M → Option (gk_M)} (H52 : ∀ (a0 : Option Nat) (x1 : Int32) (x3 : Int32) (M : gk_M), k52 a0 x1 x3 M = some ρ → Gk p l e rm_Mo_filterAll s m args below meth c gk_Y Γ 7 (MQ below (gk_Q gk_Y Γ none ρ) args s rm_Mo_filterAll.cells rm_Mo_filterAll.slots (fun q => Γ.2.2 ≤ q)) 0 0 M 52 [some (va_rf a0), some (.int x1), none, some (.int x3), none, none, none] []) {a0 : Option Nat} {x1 : Int32} {x3 : Int32} {M : gk_M} (h : fn_Mo_filterAll_52_bd k52 a0 x1 x3 M = some ρ) : Gk p l e rm_Mo_filterAll s m args below meth c gk_Y Γ 7 (MQ below (gk_Q gk_Y Γ none ρ) args s rm_Mo_filterAll.cells rm_Mo_filterAll.slots (fun q => Γ.2.2 ≤ q)) 0 0 M 52 [some (va_rf a0), some (.int x1), none, some (.int x3), none, none, none] [] := by
  unfold fn_Mo_filterAll_52_bd at h
  refine Gk_iload_n (i := 3) (x := x3) B d_Mo_filterAll_52 rfl rfl ?_
  refine Gk_bipush (v := 8) B d_Mo_filterAll_53 (by decide) ?_
  refine Gk_icmp_ge (tgt := 240) B d_Mo_filterAll_55 rfl (fun c55 => ?_) (fun c55 => ?_)
  · rw [if_pos c55] at h
    cases h
    exact Gk_vret B hr d_Mo_filterAll_240 (by decide) (by decide) rfl
  rw [if_neg c55] at h
  refine Gk_aload_n (i := 0) (r := a0) B d_Mo_filterAll_58 rfl rfl ?_
  obtain ⟨v59, h59, h⟩ := gk_bind h
  refine Gk_getI (j := 33) B d_Mo_filterAll_59 in_Mo cl_Mo (by decide) tw_788 rfl h59 ?_
  refine Gk_if_eq (tgt := 70) B d_Mo_filterAll_62 rfl (fun c62 => ?_) (fun c62 => ?_)
  · rw [if_pos c62] at h
    exact sn_Mo_filterAll_70 B hr H52 h
  rw [if_neg c62] at h
  refine Gk_iload_n (i := 1) (x := x1) B d_Mo_filterAll_65 rfl rfl ?_
  refine Gk_iconst (v := 2) B d_Mo_filterAll_66 (by decide) ?_
  refine Gk_icmp_lt (tgt := 240) B d_Mo_filterAll_67 rfl (fun c67 => ?_) (fun c67 => ?_)
  · rw [if_pos c67] at h
    cases h
    exact Gk_vret B hr d_Mo_filterAll_240 (by decide) (by decide) rfl
  rw [if_neg c67] at h
  exact sn_Mo_filterAll_70 B hr H52 h
set_option maxHeartbeats 4000000 in
set_option maxRecDepth 100000 in
theorem sn_Mo_filterAll_52 {l : Launch} {Γ : gk_G} {p : Program} {e : Env} {s : State} {m : MethodId} {args : Array Value} {below : List Frame} {meth : Method} {c : Code} (B : gk_B p s m args meth c gk_Y Γ c_Mo_filterAll 7 "StageDispatcherModel") (hr : meth.sig.returnType = none) {ρ : gk_M}   {a0 : Option Nat} {x1 : Int32} {x3 : Int32} {M : gk_M} (h : fn_Mo_filterAll_52  a0 x1 x3 M = some ρ) : Gk p l e rm_Mo_filterAll s m args below meth c gk_Y Γ 7 (MQ below (gk_Q gk_Y Γ none ρ) args s rm_Mo_filterAll.cells rm_Mo_filterAll.slots (fun q => Γ.2.2 ≤ q)) 0 0 M 52 [some (va_rf a0), some (.int x1), none, some (.int x3), none, none, none] [] := by
  unfold fn_Mo_filterAll_52 at h
  exact gk_loop_sound (α := Option Nat × Int32 × Int32 × gk_M) (P := fun a => Gk p l e rm_Mo_filterAll s m args below meth c gk_Y Γ 7 (MQ below (gk_Q gk_Y Γ none ρ) args s rm_Mo_filterAll.cells rm_Mo_filterAll.slots (fun q => Γ.2.2 ≤ q)) 0 0 a.2.2.2 52 [some (va_rf a.1), some (.int a.2.1), none, some (.int a.2.2.1), none, none, none] []) (fun kk a Hk hb => sn_Mo_filterAll_52_bd B hr (fun a0 x1 x3 M hh => Hk (a0, x1, x3, M) hh) hb) _ _ h
set_option maxHeartbeats 4000000 in
set_option maxRecDepth 100000 in
theorem sn_Mo_filterAll_2_bd {l : Launch} {Γ : gk_G} {p : Program} {e : Env} {s : State} {m : MethodId} {args : Array Value} {below : List Frame} {meth : Method} {c : Code} (B : gk_B p s m args meth c gk_Y Γ c_Mo_filterAll 7 "StageDispatcherModel") (hr : meth.sig.returnType = none) {ρ : gk_M} {k2 : Option Nat → Int32 → Int32 → Int32 → gk_M → Option (gk_M)} (H2 : ∀ (a0 : Option Nat) (x1 : Int32) (x2 : Int32) (x3 : Int32) (M : gk_M), k2 a0 x1 x2 x3 M = some ρ → Gk p l e rm_Mo_filterAll s m args below meth c gk_Y Γ 7 (MQ below (gk_Q gk_Y Γ none ρ) args s rm_Mo_filterAll.cells rm_Mo_filterAll.slots (fun q => Γ.2.2 ≤ q)) 0 0 M 2 [some (va_rf a0), some (.int x1), some (.int x2), some (.int x3), none, none, none] []) {a0 : Option Nat} {x1 : Int32} {x2 : Int32} {x3 : Int32} {M : gk_M} (h : fn_Mo_filterAll_2_bd k2 a0 x1 x2 x3 M = some ρ) : Gk p l e rm_Mo_filterAll s m args below meth c gk_Y Γ 7 (MQ below (gk_Q gk_Y Γ none ρ) args s rm_Mo_filterAll.cells rm_Mo_filterAll.slots (fun q => Γ.2.2 ≤ q)) 0 0 M 2 [some (va_rf a0), some (.int x1), some (.int x2), some (.int x3), none, none, none] [] := by
  unfold fn_Mo_filterAll_2_bd at h
  refine Gk_iload_n (i := 3) (x := x3) B d_Mo_filterAll_2 rfl rfl ?_
  refine Gk_aload_n (i := 0) (r := a0) B d_Mo_filterAll_3 rfl rfl ?_
  obtain ⟨v4, h4, h⟩ := gk_bind h
  refine Gk_getI (j := 17) B d_Mo_filterAll_4 in_Mo cl_Mo (by decide) tw_772 rfl h4 ?_
  refine Gk_icmp_ge (tgt := 50) B d_Mo_filterAll_7 rfl (fun c7 => ?_) (fun c7 => ?_)
  · rw [if_pos c7] at h
    refine Gk_iconst (v := 0) B d_Mo_filterAll_50 (by decide) ?_
    refine Gk_istore_n (i := 3) (L' := [some (va_rf a0), some (.int x1), some (.int x2), some (.int 0), none, none, none]) B d_Mo_filterAll_51 rfl (by decide) (gk_c1_i rfl) rfl ?_
    refine Gk_weak [true, true, false, true, false, false, false] (L' := [some (va_rf a0), some (.int x1), none, some (.int 0), none, none, none]) rfl ?_
    exact sn_Mo_filterAll_52 B hr h
  rw [if_neg c7] at h
  refine Gk_aload_n (i := 0) (r := a0) B d_Mo_filterAll_10 rfl rfl ?_
  obtain ⟨v11, h11, h⟩ := gk_bind h
  refine Gk_getR (j := 23) B d_Mo_filterAll_11 in_Mo cl_Mo (by decide) tw_778 rfl h11 ?_
  refine Gk_iload_n (i := 3) (x := x3) B d_Mo_filterAll_14 rfl rfl ?_
  refine Gk_aload_n (i := 0) (r := a0) B d_Mo_filterAll_15 rfl rfl ?_
  obtain ⟨v16, h16, h⟩ := gk_bind h
  refine Gk_getR (j := 20) B d_Mo_filterAll_16 in_Mo cl_Mo (by decide) tw_775 rfl h16 ?_
  refine Gk_iload_n (i := 3) (x := x3) B d_Mo_filterAll_19 rfl rfl ?_
  obtain ⟨v20, h20, h⟩ := gk_bind h
  refine Gk_iaload B d_Mo_filterAll_20 ty_0 h20 ?_
  refine Gk_iload_n (i := 1) (x := x1) B d_Mo_filterAll_21 rfl rfl ?_
  refine Gk_icmp_ne (tgt := 38) B d_Mo_filterAll_22 rfl (fun c22 => ?_) (fun c22 => ?_)
  · rw [if_neg c22] at h
    exact sn_Mo_filterAll_38 B hr H2 h
  rw [if_pos c22] at h
  refine Gk_iload_n (i := 1) (x := x1) B d_Mo_filterAll_25 rfl rfl ?_
  refine Gk_if_le (tgt := 42) B d_Mo_filterAll_26 rfl (fun c26 => ?_) (fun c26 => ?_)
  · rw [if_pos c26] at h
    exact sn_Mo_filterAll_42 B hr H2 h
  rw [if_neg c26] at h
  refine Gk_aload_n (i := 0) (r := a0) B d_Mo_filterAll_29 rfl rfl ?_
  refine Gk_iload_n (i := 3) (x := x3) B d_Mo_filterAll_30 rfl rfl ?_
  refine Gk_iload_n (i := 2) (x := x2) B d_Mo_filterAll_31 rfl rfl ?_
  obtain ⟨o32, g32, h⟩ := gk_bind h
  obtain ⟨w32, h32, h⟩ := gk_bind h
  refine Gk_callV (As := [.int x3, .int x2]) (rest := [.int x3, va_rf v11]) (st1 := [.int w32.1, .int x3, va_rf v11]) (k1 := 0) (n1 := 0) B gk_hG d_Mo_filterAll_32 (sn_Mo_bound h32) g32 cl_Mo tw_989 tw_986 tw_988 tw_17 tw_48 nm_Mo_bound rfl (by simp [gk_rc, gk_ic, gk_jc, rm_Mo_filterAll]) ⟨by decide, by decide⟩ ⟨by decide, by decide⟩ rfl rfl rfl rfl ?_
  refine Gk_if_ne (tgt := 42) B d_Mo_filterAll_35 rfl (fun c35 => ?_) (fun c35 => ?_)
  · rw [if_neg c35] at h
    exact sn_Mo_filterAll_42 B hr H2 h
  rw [if_pos c35] at h
  exact sn_Mo_filterAll_38 B hr H2 h
set_option maxHeartbeats 4000000 in
set_option maxRecDepth 100000 in
theorem sn_Mo_filterAll_2 {l : Launch} {Γ : gk_G} {p : Program} {e : Env} {s : State} {m : MethodId} {args : Array Value} {below : List Frame} {meth : Method} {c : Code} (B : gk_B p s m args meth c gk_Y Γ c_Mo_filterAll 7 "StageDispatcherModel") (hr : meth.sig.returnType = none) {ρ : gk_M}   {a0 : Option Nat} {x1 : Int32} {x2 : Int32} {x3 : Int32} {M : gk_M} (h : fn_Mo_filterAll_2  a0 x1 x2 x3 M = some ρ) : Gk p l e rm_Mo_filterAll s m args below meth c gk_Y Γ 7 (MQ below (gk_Q gk_Y Γ none ρ) args s rm_Mo_filterAll.cells rm_Mo_filterAll.slots (fun q => Γ.2.2 ≤ q)) 0 0 M 2 [some (va_rf a0), some (.int x1), some (.int x2), some (.int x3), none, none, none] [] := by
  unfold fn_Mo_filterAll_2 at h
  exact gk_loop_sound (α := Option Nat × Int32 × Int32 × Int32 × gk_M) (P := fun a => Gk p l e rm_Mo_filterAll s m args below meth c gk_Y Γ 7 (MQ below (gk_Q gk_Y Γ none ρ) args s rm_Mo_filterAll.cells rm_Mo_filterAll.slots (fun q => Γ.2.2 ≤ q)) 0 0 a.2.2.2.2 2 [some (va_rf a.1), some (.int a.2.1), some (.int a.2.2.1), some (.int a.2.2.2.1), none, none, none] []) (fun kk a Hk hb => sn_Mo_filterAll_2_bd B hr (fun a0 x1 x2 x3 M hh => Hk (a0, x1, x2, x3, M) hh) hb) _ _ h
set_option maxHeartbeats 4000000 in
set_option maxRecDepth 100000 in
theorem sn_Mo_filterAll_0 {l : Launch} {Γ : gk_G} {p : Program} {e : Env} {s : State} {m : MethodId} {args : Array Value} {below : List Frame} {meth : Method} {c : Code} (B : gk_B p s m args meth c gk_Y Γ c_Mo_filterAll 7 "StageDispatcherModel") (hr : meth.sig.returnType = none) {ρ : gk_M}   {a0 : Option Nat} {x1 : Int32} {x2 : Int32} {M : gk_M} (h : fn_Mo_filterAll  a0 x1 x2 M = some ρ) : Gk p l e rm_Mo_filterAll s m args below meth c gk_Y Γ 7 (MQ below (gk_Q gk_Y Γ none ρ) args s rm_Mo_filterAll.cells rm_Mo_filterAll.slots (fun q => Γ.2.2 ≤ q)) 0 0 M 0 [some (va_rf a0), some (.int x1), some (.int x2), none, none, none, none] [] := by
  unfold fn_Mo_filterAll at h
  refine Gk_iconst (v := 0) B d_Mo_filterAll_0 (by decide) ?_
  refine Gk_istore_n (i := 3) (L' := [some (va_rf a0), some (.int x1), some (.int x2), some (.int 0), none, none, none]) B d_Mo_filterAll_1 rfl (by decide) (gk_c1_i rfl) rfl ?_
  exact sn_Mo_filterAll_2 B hr h
theorem sn_Mo_filterAll {l : Launch} {Γ : gk_G} {a0 : Option Nat} {x1 : Int32} {x2 : Int32} {M : gk_M} {ρ : gk_M} (h : fn_Mo_filterAll a0 x1 x2 M = some ρ) : gk_Met l gk_Y Γ y_Mo_filterAll (.code y_Mo_filterAll c_Mo_filterAll 7 none :: gk_Y.2.2.2) rm_Mo_filterAll [va_rf a0, .int x1, .int x2] M none ρ :=
  gk_start (by decide) (by simp [lg_sl, gk_rc, gk_ic, gk_jc]) [some (va_rf a0), some (.int x1), some (.int x2), none, none, none, none] (by simp [gk_as, lv_args, gk_rc, gk_ic, gk_jc]) (fun p e s m args below meth c B hr hin => sn_Mo_filterAll_0 B hr h)
theorem d_Mo_cut_0 : decode c_Mo_cut 0 = .ok (.aload_n 0, 1) := by decide +kernel
theorem d_Mo_cut_1 : decode c_Mo_cut 1 = .ok (.iconst 0, 1) := by decide +kernel
theorem d_Mo_cut_2 : decode c_Mo_cut 2 = .ok (.putfield 125, 3) := by decide +kernel
theorem d_Mo_cut_5 : decode c_Mo_cut 5 = .ok (.bipush 24, 2) := by decide +kernel
theorem d_Mo_cut_7 : decode c_Mo_cut 7 = .ok (.iload_n 1, 1) := by decide +kernel
theorem d_Mo_cut_8 : decode c_Mo_cut 8 = .ok (.imul, 1) := by decide +kernel
theorem d_Mo_cut_9 : decode c_Mo_cut 9 = .ok (.istore_n 2, 1) := by decide +kernel
theorem d_Mo_cut_10 : decode c_Mo_cut 10 = .ok (.iload_n 2, 1) := by decide +kernel
theorem d_Mo_cut_11 : decode c_Mo_cut 11 = .ok (.aload_n 0, 1) := by decide +kernel
theorem d_Mo_cut_12 : decode c_Mo_cut 12 = .ok (.getfield 16, 3) := by decide +kernel
theorem d_Mo_cut_15 : decode c_Mo_cut 15 = .ok (.iload_n 1, 1) := by decide +kernel
theorem d_Mo_cut_16 : decode c_Mo_cut 16 = .ok (.iaload, 1) := by decide +kernel
theorem d_Mo_cut_17 : decode c_Mo_cut 17 = .ok (.iadd, 1) := by decide +kernel
theorem d_Mo_cut_18 : decode c_Mo_cut 18 = .ok (.istore_n 3, 1) := by decide +kernel
theorem d_Mo_cut_19 : decode c_Mo_cut 19 = .ok (.iload_n 2, 1) := by decide +kernel
theorem d_Mo_cut_20 : decode c_Mo_cut 20 = .ok (.iload_n 3, 1) := by decide +kernel
theorem d_Mo_cut_21 : decode c_Mo_cut 21 = .ok (.if_icmp .ge 120, 3) := by decide +kernel
theorem d_Mo_cut_24 : decode c_Mo_cut 24 = .ok (.aload_n 0, 1) := by decide +kernel
theorem d_Mo_cut_25 : decode c_Mo_cut 25 = .ok (.getfield 13, 3) := by decide +kernel
theorem d_Mo_cut_28 : decode c_Mo_cut 28 = .ok (.iload_n 2, 1) := by decide +kernel
theorem d_Mo_cut_29 : decode c_Mo_cut 29 = .ok (.caload, 1) := by decide +kernel
theorem d_Mo_cut_30 : decode c_Mo_cut 30 = .ok (.istore 4, 2) := by decide +kernel
theorem d_Mo_cut_32 : decode c_Mo_cut 32 = .ok (.iload_n 2, 1) := by decide +kernel
theorem d_Mo_cut_33 : decode c_Mo_cut 33 = .ok (.iconst 1, 1) := by decide +kernel
theorem d_Mo_cut_34 : decode c_Mo_cut 34 = .ok (.iadd, 1) := by decide +kernel
theorem d_Mo_cut_35 : decode c_Mo_cut 35 = .ok (.iload_n 3, 1) := by decide +kernel
theorem d_Mo_cut_36 : decode c_Mo_cut 36 = .ok (.if_icmp .ge 14, 3) := by decide +kernel
theorem d_Mo_cut_39 : decode c_Mo_cut 39 = .ok (.aload_n 0, 1) := by decide +kernel
theorem d_Mo_cut_40 : decode c_Mo_cut 40 = .ok (.getfield 13, 3) := by decide +kernel
theorem d_Mo_cut_43 : decode c_Mo_cut 43 = .ok (.iload_n 2, 1) := by decide +kernel
theorem d_Mo_cut_44 : decode c_Mo_cut 44 = .ok (.iconst 1, 1) := by decide +kernel
theorem d_Mo_cut_45 : decode c_Mo_cut 45 = .ok (.iadd, 1) := by decide +kernel
theorem d_Mo_cut_46 : decode c_Mo_cut 46 = .ok (.caload, 1) := by decide +kernel
theorem d_Mo_cut_47 : decode c_Mo_cut 47 = .ok (.goto 5, 3) := by decide +kernel
theorem d_Mo_cut_50 : decode c_Mo_cut 50 = .ok (.bipush 32, 2) := by decide +kernel
theorem d_Mo_cut_52 : decode c_Mo_cut 52 = .ok (.istore 5, 2) := by decide +kernel
theorem d_Mo_cut_54 : decode c_Mo_cut 54 = .ok (.aload_n 0, 1) := by decide +kernel
theorem d_Mo_cut_55 : decode c_Mo_cut 55 = .ok (.getfield 93, 3) := by decide +kernel
theorem d_Mo_cut_58 : decode c_Mo_cut 58 = .ok (.aload_n 0, 1) := by decide +kernel
theorem d_Mo_cut_59 : decode c_Mo_cut 59 = .ok (.getfield 125, 3) := by decide +kernel
theorem d_Mo_cut_62 : decode c_Mo_cut 62 = .ok (.iload 4, 2) := by decide +kernel
theorem d_Mo_cut_64 : decode c_Mo_cut 64 = .ok (.bipush 123, 2) := by decide +kernel
theorem d_Mo_cut_66 : decode c_Mo_cut 66 = .ok (.if_icmp .eq 8, 3) := by decide +kernel
theorem d_Mo_cut_69 : decode c_Mo_cut 69 = .ok (.iload 4, 2) := by decide +kernel
theorem d_Mo_cut_71 : decode c_Mo_cut 71 = .ok (.goto 26, 3) := by decide +kernel
theorem d_Mo_cut_74 : decode c_Mo_cut 74 = .ok (.iload 5, 2) := by decide +kernel
theorem d_Mo_cut_76 : decode c_Mo_cut 76 = .ok (.bipush 125, 2) := by decide +kernel
theorem d_Mo_cut_78 : decode c_Mo_cut 78 = .ok (.if_icmp .ne 7, 3) := by decide +kernel
theorem d_Mo_cut_81 : decode c_Mo_cut 81 = .ok (.iconst 1, 1) := by decide +kernel
theorem d_Mo_cut_82 : decode c_Mo_cut 82 = .ok (.goto 15, 3) := by decide +kernel
theorem d_Mo_cut_85 : decode c_Mo_cut 85 = .ok (.iload 5, 2) := by decide +kernel
theorem d_Mo_cut_87 : decode c_Mo_cut 87 = .ok (.bipush 100, 2) := by decide +kernel
theorem d_Mo_cut_89 : decode c_Mo_cut 89 = .ok (.if_icmp .ne 7, 3) := by decide +kernel
theorem d_Mo_cut_92 : decode c_Mo_cut 92 = .ok (.iconst 2, 1) := by decide +kernel
theorem d_Mo_cut_93 : decode c_Mo_cut 93 = .ok (.goto 4, 3) := by decide +kernel
theorem d_Mo_cut_96 : decode c_Mo_cut 96 = .ok (.iconst 3, 1) := by decide +kernel
theorem d_Mo_cut_97 : decode c_Mo_cut 97 = .ok (.iastore, 1) := by decide +kernel
theorem d_Mo_cut_98 : decode c_Mo_cut 98 = .ok (.iload 4, 2) := by decide +kernel
theorem d_Mo_cut_100 : decode c_Mo_cut 100 = .ok (.bipush 123, 2) := by decide +kernel
theorem d_Mo_cut_102 : decode c_Mo_cut 102 = .ok (.if_icmp .eq 9, 3) := by decide +kernel
theorem d_Mo_cut_105 : decode c_Mo_cut 105 = .ok (.iload_n 2, 1) := by decide +kernel
theorem d_Mo_cut_106 : decode c_Mo_cut 106 = .ok (.iconst 1, 1) := by decide +kernel
theorem d_Mo_cut_107 : decode c_Mo_cut 107 = .ok (.iadd, 1) := by decide +kernel
theorem d_Mo_cut_108 : decode c_Mo_cut 108 = .ok (.goto 19, 3) := by decide +kernel
theorem d_Mo_cut_111 : decode c_Mo_cut 111 = .ok (.iload 5, 2) := by decide +kernel
theorem d_Mo_cut_113 : decode c_Mo_cut 113 = .ok (.bipush 125, 2) := by decide +kernel
theorem d_Mo_cut_115 : decode c_Mo_cut 115 = .ok (.if_icmp .ne 9, 3) := by decide +kernel
theorem d_Mo_cut_118 : decode c_Mo_cut 118 = .ok (.iload_n 2, 1) := by decide +kernel
theorem d_Mo_cut_119 : decode c_Mo_cut 119 = .ok (.iconst 2, 1) := by decide +kernel
theorem d_Mo_cut_120 : decode c_Mo_cut 120 = .ok (.iadd, 1) := by decide +kernel
theorem d_Mo_cut_121 : decode c_Mo_cut 121 = .ok (.goto 6, 3) := by decide +kernel
theorem d_Mo_cut_124 : decode c_Mo_cut 124 = .ok (.iload_n 2, 1) := by decide +kernel
theorem d_Mo_cut_125 : decode c_Mo_cut 125 = .ok (.iconst 3, 1) := by decide +kernel
theorem d_Mo_cut_126 : decode c_Mo_cut 126 = .ok (.iadd, 1) := by decide +kernel
theorem d_Mo_cut_127 : decode c_Mo_cut 127 = .ok (.istore_n 2, 1) := by decide +kernel
theorem d_Mo_cut_128 : decode c_Mo_cut 128 = .ok (.aload_n 0, 1) := by decide +kernel
theorem d_Mo_cut_129 : decode c_Mo_cut 129 = .ok (.dup, 1) := by decide +kernel
theorem d_Mo_cut_130 : decode c_Mo_cut 130 = .ok (.getfield 125, 3) := by decide +kernel
theorem d_Mo_cut_133 : decode c_Mo_cut 133 = .ok (.iconst 1, 1) := by decide +kernel
theorem d_Mo_cut_134 : decode c_Mo_cut 134 = .ok (.iadd, 1) := by decide +kernel
theorem d_Mo_cut_135 : decode c_Mo_cut 135 = .ok (.putfield 125, 3) := by decide +kernel
theorem d_Mo_cut_138 : decode c_Mo_cut 138 = .ok (.goto (-119), 3) := by decide +kernel
theorem d_Mo_cut_141 : decode c_Mo_cut 141 = .ok (.return_, 1) := by decide +kernel
set_option maxHeartbeats 4000000 in
set_option maxRecDepth 100000 in
theorem sn_Mo_cut_127 {l : Launch} {Γ : gk_G} {p : Program} {e : Env} {s : State} {m : MethodId} {args : Array Value} {below : List Frame} {meth : Method} {c : Code} (B : gk_B p s m args meth c gk_Y Γ c_Mo_cut 6 "StageDispatcherModel") (hr : meth.sig.returnType = none) {ρ : gk_M} {k19 : Option Nat → Int32 → Int32 → gk_M → Option (gk_M)} (H19 : ∀ (a0 : Option Nat) (x2 : Int32) (x3 : Int32) (M : gk_M), k19 a0 x2 x3 M = some ρ → Gk p l e rm_Mo_cut s m args below meth c gk_Y Γ 6 (MQ below (gk_Q gk_Y Γ none ρ) args s rm_Mo_cut.cells rm_Mo_cut.slots (fun q => Γ.2.2 ≤ q)) 0 0 M 19 [some (va_rf a0), none, some (.int x2), some (.int x3), none, none] []) {a0 : Option Nat} {x3 : Int32} {s0 : Int32} {M : gk_M} (h : fn_Mo_cut_127 k19 a0 x3 s0 M = some ρ) : Gk p l e rm_Mo_cut s m args below meth c gk_Y Γ 6 (MQ below (gk_Q gk_Y Γ none ρ) args s rm_Mo_cut.cells rm_Mo_cut.slots (fun q => Γ.2.2 ≤ q)) 0 0 M 127 [some (va_rf a0), none, none, some (.int x3), none, none] [.int s0] := by
  unfold fn_Mo_cut_127 at h
  refine Gk_istore_n (i := 2) (L' := [some (va_rf a0), none, some (.int s0), some (.int x3), none, none]) B d_Mo_cut_127 rfl (by decide) (gk_c1_n rfl) rfl ?_
  refine Gk_aload_n (i := 0) (r := a0) B d_Mo_cut_128 rfl rfl ?_
  refine Gk_dup B d_Mo_cut_129 (gk_rc _) ?_
  obtain ⟨v130, h130, h⟩ := gk_bind h
  refine Gk_getI (j := 47) B d_Mo_cut_130 in_Mo cl_Mo (by decide) tw_802 rfl h130 ?_
  refine Gk_iconst (v := 1) B d_Mo_cut_133 (by decide) ?_
  refine Gk_iadd B d_Mo_cut_134 ?_
  obtain ⟨M135, h135, h⟩ := gk_bind h
  refine Gk_put (j := 47) (ty := .int) B d_Mo_cut_135 in_Mo t_Mo t_Mo_ok n_Mo cl_Mo (by decide) tw_802 rfl rfl rfl rfl rfl h135 ?_
  refine Gk_goto (tgt := 19) B d_Mo_cut_138 rfl ?_
  exact H19 a0 s0 x3 M135 h
set_option maxHeartbeats 4000000 in
set_option maxRecDepth 100000 in
theorem sn_Mo_cut_97 {l : Launch} {Γ : gk_G} {p : Program} {e : Env} {s : State} {m : MethodId} {args : Array Value} {below : List Frame} {meth : Method} {c : Code} (B : gk_B p s m args meth c gk_Y Γ c_Mo_cut 6 "StageDispatcherModel") (hr : meth.sig.returnType = none) {ρ : gk_M} {k19 : Option Nat → Int32 → Int32 → gk_M → Option (gk_M)} (H19 : ∀ (a0 : Option Nat) (x2 : Int32) (x3 : Int32) (M : gk_M), k19 a0 x2 x3 M = some ρ → Gk p l e rm_Mo_cut s m args below meth c gk_Y Γ 6 (MQ below (gk_Q gk_Y Γ none ρ) args s rm_Mo_cut.cells rm_Mo_cut.slots (fun q => Γ.2.2 ≤ q)) 0 0 M 19 [some (va_rf a0), none, some (.int x2), some (.int x3), none, none] []) {a0 : Option Nat} {x2 : Int32} {x3 : Int32} {x4 : Int32} {x5 : Int32} {s0 : Option Nat} {s1 : Int32} {s2 : Int32} {M : gk_M} (h : fn_Mo_cut_97 k19 a0 x2 x3 x4 x5 s0 s1 s2 M = some ρ) : Gk p l e rm_Mo_cut s m args below meth c gk_Y Γ 6 (MQ below (gk_Q gk_Y Γ none ρ) args s rm_Mo_cut.cells rm_Mo_cut.slots (fun q => Γ.2.2 ≤ q)) 0 0 M 97 [some (va_rf a0), none, some (.int x2), some (.int x3), some (.int x4), some (.int x5)] [.int s2, .int s1, va_rf s0] := by
  unfold fn_Mo_cut_97 at h
  obtain ⟨M97, h97, h⟩ := gk_bind h
  refine Gk_iastore B d_Mo_cut_97 ty_0 h97 ?_
  refine Gk_iload (x := x4) B d_Mo_cut_98 rfl ?_
  refine Gk_bipush (v := 123) B d_Mo_cut_100 (by decide) ?_
  refine Gk_icmp_eq (tgt := 111) B d_Mo_cut_102 rfl (fun c102 => ?_) (fun c102 => ?_)
  · rw [if_pos c102] at h
    refine Gk_iload (x := x5) B d_Mo_cut_111 rfl ?_
    refine Gk_bipush (v := 125) B d_Mo_cut_113 (by decide) ?_
    refine Gk_icmp_ne (tgt := 124) B d_Mo_cut_115 rfl (fun c115 => ?_) (fun c115 => ?_)
    · rw [if_neg c115] at h
      refine Gk_iload_n (i := 2) (x := x2) B d_Mo_cut_124 rfl rfl ?_
      refine Gk_iconst (v := 3) B d_Mo_cut_125 (by decide) ?_
      refine Gk_iadd B d_Mo_cut_126 ?_
      refine Gk_weak [true, false, false, true, false, false] (L' := [some (va_rf a0), none, none, some (.int x3), none, none]) rfl ?_
      exact sn_Mo_cut_127 B hr H19 h
    rw [if_pos c115] at h
    refine Gk_iload_n (i := 2) (x := x2) B d_Mo_cut_118 rfl rfl ?_
    refine Gk_iconst (v := 2) B d_Mo_cut_119 (by decide) ?_
    refine Gk_iadd B d_Mo_cut_120 ?_
    refine Gk_goto (tgt := 127) B d_Mo_cut_121 rfl ?_
    refine Gk_weak [true, false, false, true, false, false] (L' := [some (va_rf a0), none, none, some (.int x3), none, none]) rfl ?_
    exact sn_Mo_cut_127 B hr H19 h
  rw [if_neg c102] at h
  refine Gk_iload_n (i := 2) (x := x2) B d_Mo_cut_105 rfl rfl ?_
  refine Gk_iconst (v := 1) B d_Mo_cut_106 (by decide) ?_
  refine Gk_iadd B d_Mo_cut_107 ?_
  refine Gk_goto (tgt := 127) B d_Mo_cut_108 rfl ?_
  refine Gk_weak [true, false, false, true, false, false] (L' := [some (va_rf a0), none, none, some (.int x3), none, none]) rfl ?_
  exact sn_Mo_cut_127 B hr H19 h
set_option maxHeartbeats 4000000 in
set_option maxRecDepth 100000 in
theorem sn_Mo_cut_52 {l : Launch} {Γ : gk_G} {p : Program} {e : Env} {s : State} {m : MethodId} {args : Array Value} {below : List Frame} {meth : Method} {c : Code} (B : gk_B p s m args meth c gk_Y Γ c_Mo_cut 6 "StageDispatcherModel") (hr : meth.sig.returnType = none) {ρ : gk_M} {k19 : Option Nat → Int32 → Int32 → gk_M → Option (gk_M)} (H19 : ∀ (a0 : Option Nat) (x2 : Int32) (x3 : Int32) (M : gk_M), k19 a0 x2 x3 M = some ρ → Gk p l e rm_Mo_cut s m args below meth c gk_Y Γ 6 (MQ below (gk_Q gk_Y Γ none ρ) args s rm_Mo_cut.cells rm_Mo_cut.slots (fun q => Γ.2.2 ≤ q)) 0 0 M 19 [some (va_rf a0), none, some (.int x2), some (.int x3), none, none] []) {a0 : Option Nat} {x2 : Int32} {x3 : Int32} {x4 : Int32} {s0 : Int32} {M : gk_M} (h : fn_Mo_cut_52 k19 a0 x2 x3 x4 s0 M = some ρ) : Gk p l e rm_Mo_cut s m args below meth c gk_Y Γ 6 (MQ below (gk_Q gk_Y Γ none ρ) args s rm_Mo_cut.cells rm_Mo_cut.slots (fun q => Γ.2.2 ≤ q)) 0 0 M 52 [some (va_rf a0), none, some (.int x2), some (.int x3), some (.int x4), none] [.int s0] := by
  unfold fn_Mo_cut_52 at h
  refine Gk_istore (L' := [some (va_rf a0), none, some (.int x2), some (.int x3), some (.int x4), some (.int s0)]) B d_Mo_cut_52 (by decide) (gk_c1_i rfl) rfl ?_
  refine Gk_aload_n (i := 0) (r := a0) B d_Mo_cut_54 rfl rfl ?_
  obtain ⟨v55, h55, h⟩ := gk_bind h
  refine Gk_getR (j := 48) B d_Mo_cut_55 in_Mo cl_Mo (by decide) tw_803 rfl h55 ?_
  refine Gk_aload_n (i := 0) (r := a0) B d_Mo_cut_58 rfl rfl ?_
  obtain ⟨v59, h59, h⟩ := gk_bind h
  refine Gk_getI (j := 47) B d_Mo_cut_59 in_Mo cl_Mo (by decide) tw_802 rfl h59 ?_
  refine Gk_iload (x := x4) B d_Mo_cut_62 rfl ?_
  refine Gk_bipush (v := 123) B d_Mo_cut_64 (by decide) ?_
  refine Gk_icmp_eq (tgt := 74) B d_Mo_cut_66 rfl (fun c66 => ?_) (fun c66 => ?_)
  · rw [if_pos c66] at h
    refine Gk_iload (x := s0) B d_Mo_cut_74 rfl ?_
    refine Gk_bipush (v := 125) B d_Mo_cut_76 (by decide) ?_
    refine Gk_icmp_ne (tgt := 85) B d_Mo_cut_78 rfl (fun c78 => ?_) (fun c78 => ?_)
    · rw [if_neg c78] at h
      refine Gk_iload (x := s0) B d_Mo_cut_85 rfl ?_
      refine Gk_bipush (v := 100) B d_Mo_cut_87 (by decide) ?_
      refine Gk_icmp_ne (tgt := 96) B d_Mo_cut_89 rfl (fun c89 => ?_) (fun c89 => ?_)
      · rw [if_neg c89] at h
        refine Gk_iconst (v := 3) B d_Mo_cut_96 (by decide) ?_
        exact sn_Mo_cut_97 B hr H19 h
      rw [if_pos c89] at h
      refine Gk_iconst (v := 2) B d_Mo_cut_92 (by decide) ?_
      refine Gk_goto (tgt := 97) B d_Mo_cut_93 rfl ?_
      exact sn_Mo_cut_97 B hr H19 h
    rw [if_pos c78] at h
    refine Gk_iconst (v := 1) B d_Mo_cut_81 (by decide) ?_
    refine Gk_goto (tgt := 97) B d_Mo_cut_82 rfl ?_
    exact sn_Mo_cut_97 B hr H19 h
  rw [if_neg c66] at h
  refine Gk_iload (x := x4) B d_Mo_cut_69 rfl ?_
  refine Gk_goto (tgt := 97) B d_Mo_cut_71 rfl ?_
  exact sn_Mo_cut_97 B hr H19 h
set_option maxHeartbeats 4000000 in
set_option maxRecDepth 100000 in
theorem sn_Mo_cut_19_bd {l : Launch} {Γ : gk_G} {p : Program} {e : Env} {s : State} {m : MethodId} {args : Array Value} {below : List Frame} {meth : Method} {c : Code} (B : gk_B p s m args meth c gk_Y Γ c_Mo_cut 6 "StageDispatcherModel") (hr : meth.sig.returnType = none) {ρ : gk_M} {k19 : Option Nat → Int32 → Int32 → gk_M → Option (gk_M)} (H19 : ∀ (a0 : Option Nat) (x2 : Int32) (x3 : Int32) (M : gk_M), k19 a0 x2 x3 M = some ρ → Gk p l e rm_Mo_cut s m args below meth c gk_Y Γ 6 (MQ below (gk_Q gk_Y Γ none ρ) args s rm_Mo_cut.cells rm_Mo_cut.slots (fun q => Γ.2.2 ≤ q)) 0 0 M 19 [some (va_rf a0), none, some (.int x2), some (.int x3), none, none] []) {a0 : Option Nat} {x2 : Int32} {x3 : Int32} {M : gk_M} (h : fn_Mo_cut_19_bd k19 a0 x2 x3 M = some ρ) : Gk p l e rm_Mo_cut s m args below meth c gk_Y Γ 6 (MQ below (gk_Q gk_Y Γ none ρ) args s rm_Mo_cut.cells rm_Mo_cut.slots (fun q => Γ.2.2 ≤ q)) 0 0 M 19 [some (va_rf a0), none, some (.int x2), some (.int x3), none, none] [] := by
  unfold fn_Mo_cut_19_bd at h
  refine Gk_iload_n (i := 2) (x := x2) B d_Mo_cut_19 rfl rfl ?_
  refine Gk_iload_n (i := 3) (x := x3) B d_Mo_cut_20 rfl rfl ?_
  refine Gk_icmp_ge (tgt := 141) B d_Mo_cut_21 rfl (fun c21 => ?_) (fun c21 => ?_)
  · rw [if_pos c21] at h
    cases h
    exact Gk_vret B hr d_Mo_cut_141 (by decide) (by decide) rfl
  rw [if_neg c21] at h
  refine Gk_aload_n (i := 0) (r := a0) B d_Mo_cut_24 rfl rfl ?_
  obtain ⟨v25, h25, h⟩ := gk_bind h
  refine Gk_getR (j := 2) B d_Mo_cut_25 in_Mo cl_Mo (by decide) tw_757 rfl h25 ?_
  refine Gk_iload_n (i := 2) (x := x2) B d_Mo_cut_28 rfl rfl ?_
  obtain ⟨v29, h29, h⟩ := gk_bind h
  refine Gk_caload B d_Mo_cut_29 ty_1 h29 ?_
  refine Gk_istore (L' := [some (va_rf a0), none, some (.int x2), some (.int x3), some (.int v29), none]) B d_Mo_cut_30 (by decide) (gk_c1_i rfl) rfl ?_
  refine Gk_iload_n (i := 2) (x := x2) B d_Mo_cut_32 rfl rfl ?_
  refine Gk_iconst (v := 1) B d_Mo_cut_33 (by decide) ?_
  refine Gk_iadd B d_Mo_cut_34 ?_
  refine Gk_iload_n (i := 3) (x := x3) B d_Mo_cut_35 rfl rfl ?_
  refine Gk_icmp_ge (tgt := 50) B d_Mo_cut_36 rfl (fun c36 => ?_) (fun c36 => ?_)
  · rw [if_pos c36] at h
    refine Gk_bipush (v := 32) B d_Mo_cut_50 (by decide) ?_
    exact sn_Mo_cut_52 B hr H19 h
  rw [if_neg c36] at h
  refine Gk_aload_n (i := 0) (r := a0) B d_Mo_cut_39 rfl rfl ?_
  obtain ⟨v40, h40, h⟩ := gk_bind h
  refine Gk_getR (j := 2) B d_Mo_cut_40 in_Mo cl_Mo (by decide) tw_757 rfl h40 ?_
  refine Gk_iload_n (i := 2) (x := x2) B d_Mo_cut_43 rfl rfl ?_
  refine Gk_iconst (v := 1) B d_Mo_cut_44 (by decide) ?_
  refine Gk_iadd B d_Mo_cut_45 ?_
  obtain ⟨v46, h46, h⟩ := gk_bind h
  refine Gk_caload B d_Mo_cut_46 ty_1 h46 ?_
  refine Gk_goto (tgt := 52) B d_Mo_cut_47 rfl ?_
  exact sn_Mo_cut_52 B hr H19 h
set_option maxHeartbeats 4000000 in
set_option maxRecDepth 100000 in
theorem sn_Mo_cut_19 {l : Launch} {Γ : gk_G} {p : Program} {e : Env} {s : State} {m : MethodId} {args : Array Value} {below : List Frame} {meth : Method} {c : Code} (B : gk_B p s m args meth c gk_Y Γ c_Mo_cut 6 "StageDispatcherModel") (hr : meth.sig.returnType = none) {ρ : gk_M}   {a0 : Option Nat} {x2 : Int32} {x3 : Int32} {M : gk_M} (h : fn_Mo_cut_19  a0 x2 x3 M = some ρ) : Gk p l e rm_Mo_cut s m args below meth c gk_Y Γ 6 (MQ below (gk_Q gk_Y Γ none ρ) args s rm_Mo_cut.cells rm_Mo_cut.slots (fun q => Γ.2.2 ≤ q)) 0 0 M 19 [some (va_rf a0), none, some (.int x2), some (.int x3), none, none] [] := by
  unfold fn_Mo_cut_19 at h
  exact gk_loop_sound (α := Option Nat × Int32 × Int32 × gk_M) (P := fun a => Gk p l e rm_Mo_cut s m args below meth c gk_Y Γ 6 (MQ below (gk_Q gk_Y Γ none ρ) args s rm_Mo_cut.cells rm_Mo_cut.slots (fun q => Γ.2.2 ≤ q)) 0 0 a.2.2.2 19 [some (va_rf a.1), none, some (.int a.2.1), some (.int a.2.2.1), none, none] []) (fun kk a Hk hb => sn_Mo_cut_19_bd B hr (fun a0 x2 x3 M hh => Hk (a0, x2, x3, M) hh) hb) _ _ h
set_option maxHeartbeats 4000000 in
set_option maxRecDepth 100000 in
theorem sn_Mo_cut_0 {l : Launch} {Γ : gk_G} {p : Program} {e : Env} {s : State} {m : MethodId} {args : Array Value} {below : List Frame} {meth : Method} {c : Code} (B : gk_B p s m args meth c gk_Y Γ c_Mo_cut 6 "StageDispatcherModel") (hr : meth.sig.returnType = none) {ρ : gk_M}   {a0 : Option Nat} {x1 : Int32} {M : gk_M} (h : fn_Mo_cut  a0 x1 M = some ρ) : Gk p l e rm_Mo_cut s m args below meth c gk_Y Γ 6 (MQ below (gk_Q gk_Y Γ none ρ) args s rm_Mo_cut.cells rm_Mo_cut.slots (fun q => Γ.2.2 ≤ q)) 0 0 M 0 [some (va_rf a0), some (.int x1), none, none, none, none] [] := by
  unfold fn_Mo_cut at h
  refine Gk_aload_n (i := 0) (r := a0) B d_Mo_cut_0 rfl rfl ?_
  refine Gk_iconst (v := 0) B d_Mo_cut_1 (by decide) ?_
  obtain ⟨M2, h2, h⟩ := gk_bind h
  refine Gk_put (j := 47) (ty := .int) B d_Mo_cut_2 in_Mo t_Mo t_Mo_ok n_Mo cl_Mo (by decide) tw_802 rfl rfl rfl rfl rfl h2 ?_
  refine Gk_bipush (v := 24) B d_Mo_cut_5 (by decide) ?_
  refine Gk_iload_n (i := 1) (x := x1) B d_Mo_cut_7 rfl rfl ?_
  refine Gk_imul B d_Mo_cut_8 ?_
  refine Gk_istore_n (i := 2) (L' := [some (va_rf a0), some (.int x1), some (.int ((24 : Int32) * x1)), none, none, none]) B d_Mo_cut_9 rfl (by decide) (gk_c1_i rfl) rfl ?_
  refine Gk_iload_n (i := 2) (x := ((24 : Int32) * x1)) B d_Mo_cut_10 rfl rfl ?_
  refine Gk_aload_n (i := 0) (r := a0) B d_Mo_cut_11 rfl rfl ?_
  obtain ⟨v12, h12, h⟩ := gk_bind h
  refine Gk_getR (j := 3) B d_Mo_cut_12 in_Mo cl_Mo (by decide) tw_758 rfl h12 ?_
  refine Gk_iload_n (i := 1) (x := x1) B d_Mo_cut_15 rfl rfl ?_
  obtain ⟨v16, h16, h⟩ := gk_bind h
  refine Gk_iaload B d_Mo_cut_16 ty_0 h16 ?_
  refine Gk_iadd B d_Mo_cut_17 ?_
  refine Gk_istore_n (i := 3) (L' := [some (va_rf a0), some (.int x1), some (.int ((24 : Int32) * x1)), some (.int (((24 : Int32) * x1) + v16)), none, none]) B d_Mo_cut_18 rfl (by decide) (gk_c1_i rfl) rfl ?_
  refine Gk_weak [true, false, true, true, false, false] (L' := [some (va_rf a0), none, some (.int ((24 : Int32) * x1)), some (.int (((24 : Int32) * x1) + v16)), none, none]) rfl ?_
  exact sn_Mo_cut_19 B hr h
theorem sn_Mo_cut {l : Launch} {Γ : gk_G} {a0 : Option Nat} {x1 : Int32} {M : gk_M} {ρ : gk_M} (h : fn_Mo_cut a0 x1 M = some ρ) : gk_Met l gk_Y Γ y_Mo_cut (.code y_Mo_cut c_Mo_cut 6 none :: gk_Y.2.2.2) rm_Mo_cut [va_rf a0, .int x1] M none ρ :=
  gk_start (by decide) (by simp [lg_sl, gk_rc, gk_ic, gk_jc]) [some (va_rf a0), some (.int x1), none, none, none, none] (by simp [gk_as, lv_args, gk_rc, gk_ic, gk_jc]) (fun p e s m args below meth c B hr hin => sn_Mo_cut_0 B hr h)
theorem d_Mo_fits_0 : decode c_Mo_fits 0 = .ok (.iload_n 0, 1) := by decide +kernel
theorem d_Mo_fits_1 : decode c_Mo_fits 1 = .ok (.iconst 3, 1) := by decide +kernel
theorem d_Mo_fits_2 : decode c_Mo_fits 2 = .ok (.if_icmp .eq 42, 3) := by decide +kernel
theorem d_Mo_fits_5 : decode c_Mo_fits 5 = .ok (.iload_n 0, 1) := by decide +kernel
theorem d_Mo_fits_6 : decode c_Mo_fits 6 = .ok (.iconst 2, 1) := by decide +kernel
theorem d_Mo_fits_7 : decode c_Mo_fits 7 = .ok (.if_icmp .ne 18, 3) := by decide +kernel
theorem d_Mo_fits_10 : decode c_Mo_fits 10 = .ok (.iload_n 1, 1) := by decide +kernel
theorem d_Mo_fits_11 : decode c_Mo_fits 11 = .ok (.bipush 48, 2) := by decide +kernel
theorem d_Mo_fits_13 : decode c_Mo_fits 13 = .ok (.if_icmp .lt 35, 3) := by decide +kernel
theorem d_Mo_fits_16 : decode c_Mo_fits 16 = .ok (.iload_n 1, 1) := by decide +kernel
theorem d_Mo_fits_17 : decode c_Mo_fits 17 = .ok (.bipush 57, 2) := by decide +kernel
theorem d_Mo_fits_19 : decode c_Mo_fits 19 = .ok (.if_icmp .gt 29, 3) := by decide +kernel
theorem d_Mo_fits_22 : decode c_Mo_fits 22 = .ok (.goto 22, 3) := by decide +kernel
theorem d_Mo_fits_25 : decode c_Mo_fits 25 = .ok (.iload_n 0, 1) := by decide +kernel
theorem d_Mo_fits_26 : decode c_Mo_fits 26 = .ok (.iconst 1, 1) := by decide +kernel
theorem d_Mo_fits_27 : decode c_Mo_fits 27 = .ok (.if_icmp .ne 12, 3) := by decide +kernel
theorem d_Mo_fits_30 : decode c_Mo_fits 30 = .ok (.iload_n 1, 1) := by decide +kernel
theorem d_Mo_fits_31 : decode c_Mo_fits 31 = .ok (.bipush 47, 2) := by decide +kernel
theorem d_Mo_fits_33 : decode c_Mo_fits 33 = .ok (.if_icmp .eq 15, 3) := by decide +kernel
theorem d_Mo_fits_36 : decode c_Mo_fits 36 = .ok (.goto 8, 3) := by decide +kernel
theorem d_Mo_fits_39 : decode c_Mo_fits 39 = .ok (.iload_n 1, 1) := by decide +kernel
theorem d_Mo_fits_40 : decode c_Mo_fits 40 = .ok (.iload_n 0, 1) := by decide +kernel
theorem d_Mo_fits_41 : decode c_Mo_fits 41 = .ok (.if_icmp .ne 7, 3) := by decide +kernel
theorem d_Mo_fits_44 : decode c_Mo_fits 44 = .ok (.iconst 1, 1) := by decide +kernel
theorem d_Mo_fits_45 : decode c_Mo_fits 45 = .ok (.goto 4, 3) := by decide +kernel
theorem d_Mo_fits_48 : decode c_Mo_fits 48 = .ok (.iconst 0, 1) := by decide +kernel
theorem d_Mo_fits_49 : decode c_Mo_fits 49 = .ok (.ireturn, 1) := by decide +kernel
set_option maxHeartbeats 4000000 in
set_option maxRecDepth 100000 in
theorem sn_Mo_fits_44 {l : Launch} {Γ : gk_G} {p : Program} {e : Env} {s : State} {m : MethodId} {args : Array Value} {below : List Frame} {meth : Method} {c : Code} (B : gk_B p s m args meth c gk_Y Γ c_Mo_fits 2 "StageDispatcherModel") (hr : meth.sig.returnType = (some .boolean)) {ρ : Int32 × gk_M}    {M : gk_M} (h : fn_Mo_fits_44   M = some ρ) : Gk p l e rm_Mo_fits s m args below meth c gk_Y Γ 2 (MQ below (gk_Q gk_Y Γ (some (.int ρ.1)) ρ.2) args s rm_Mo_fits.cells rm_Mo_fits.slots (fun q => Γ.2.2 ≤ q)) 0 0 M 44 [none, none] [] := by
  unfold fn_Mo_fits_44 at h
  refine Gk_iconst (v := 1) B d_Mo_fits_44 (by decide) ?_
  refine Gk_goto (tgt := 49) B d_Mo_fits_45 rfl ?_
  obtain ⟨z, hz, h⟩ := gk_bind h
  obtain ⟨hz1, hz2⟩ := gk_z_eq hz
  cases h
  subst hz1
  exact Gk_iret B hr d_Mo_fits_49 (gk_nz hz2) (by decide) (by decide) rfl
set_option maxHeartbeats 4000000 in
set_option maxRecDepth 100000 in
theorem sn_Mo_fits_48 {l : Launch} {Γ : gk_G} {p : Program} {e : Env} {s : State} {m : MethodId} {args : Array Value} {below : List Frame} {meth : Method} {c : Code} (B : gk_B p s m args meth c gk_Y Γ c_Mo_fits 2 "StageDispatcherModel") (hr : meth.sig.returnType = (some .boolean)) {ρ : Int32 × gk_M}    {M : gk_M} (h : fn_Mo_fits_48   M = some ρ) : Gk p l e rm_Mo_fits s m args below meth c gk_Y Γ 2 (MQ below (gk_Q gk_Y Γ (some (.int ρ.1)) ρ.2) args s rm_Mo_fits.cells rm_Mo_fits.slots (fun q => Γ.2.2 ≤ q)) 0 0 M 48 [none, none] [] := by
  unfold fn_Mo_fits_48 at h
  refine Gk_iconst (v := 0) B d_Mo_fits_48 (by decide) ?_
  obtain ⟨z, hz, h⟩ := gk_bind h
  obtain ⟨hz1, hz2⟩ := gk_z_eq hz
  cases h
  subst hz1
  exact Gk_iret B hr d_Mo_fits_49 (gk_nz hz2) (by decide) (by decide) rfl
set_option maxHeartbeats 4000000 in
set_option maxRecDepth 100000 in
theorem sn_Mo_fits_0 {l : Launch} {Γ : gk_G} {p : Program} {e : Env} {s : State} {m : MethodId} {args : Array Value} {below : List Frame} {meth : Method} {c : Code} (B : gk_B p s m args meth c gk_Y Γ c_Mo_fits 2 "StageDispatcherModel") (hr : meth.sig.returnType = (some .boolean)) {ρ : Int32 × gk_M}   {x0 : Int32} {x1 : Int32} {M : gk_M} (h : fn_Mo_fits  x0 x1 M = some ρ) : Gk p l e rm_Mo_fits s m args below meth c gk_Y Γ 2 (MQ below (gk_Q gk_Y Γ (some (.int ρ.1)) ρ.2) args s rm_Mo_fits.cells rm_Mo_fits.slots (fun q => Γ.2.2 ≤ q)) 0 0 M 0 [some (.int x0), some (.int x1)] [] := by
  unfold fn_Mo_fits at h
  refine Gk_iload_n (i := 0) (x := x0) B d_Mo_fits_0 rfl rfl ?_
  refine Gk_iconst (v := 3) B d_Mo_fits_1 (by decide) ?_
  refine Gk_icmp_eq (tgt := 44) B d_Mo_fits_2 rfl (fun c2 => ?_) (fun c2 => ?_)
  · rw [if_pos c2] at h
    refine Gk_weak [false, false] (L' := [none, none]) rfl ?_
    exact sn_Mo_fits_44 B hr h
  rw [if_neg c2] at h
  refine Gk_iload_n (i := 0) (x := x0) B d_Mo_fits_5 rfl rfl ?_
  refine Gk_iconst (v := 2) B d_Mo_fits_6 (by decide) ?_
  refine Gk_icmp_ne (tgt := 25) B d_Mo_fits_7 rfl (fun c7 => ?_) (fun c7 => ?_)
  · rw [if_neg c7] at h
    refine Gk_iload_n (i := 0) (x := x0) B d_Mo_fits_25 rfl rfl ?_
    refine Gk_iconst (v := 1) B d_Mo_fits_26 (by decide) ?_
    refine Gk_icmp_ne (tgt := 39) B d_Mo_fits_27 rfl (fun c27 => ?_) (fun c27 => ?_)
    · rw [if_neg c27] at h
      refine Gk_iload_n (i := 1) (x := x1) B d_Mo_fits_39 rfl rfl ?_
      refine Gk_iload_n (i := 0) (x := x0) B d_Mo_fits_40 rfl rfl ?_
      refine Gk_icmp_ne (tgt := 48) B d_Mo_fits_41 rfl (fun c41 => ?_) (fun c41 => ?_)
      · rw [if_neg c41] at h
        refine Gk_weak [false, false] (L' := [none, none]) rfl ?_
        exact sn_Mo_fits_48 B hr h
      rw [if_pos c41] at h
      refine Gk_weak [false, false] (L' := [none, none]) rfl ?_
      exact sn_Mo_fits_44 B hr h
    rw [if_pos c27] at h
    refine Gk_iload_n (i := 1) (x := x1) B d_Mo_fits_30 rfl rfl ?_
    refine Gk_bipush (v := 47) B d_Mo_fits_31 (by decide) ?_
    refine Gk_icmp_eq (tgt := 48) B d_Mo_fits_33 rfl (fun c33 => ?_) (fun c33 => ?_)
    · rw [if_pos c33] at h
      refine Gk_weak [false, false] (L' := [none, none]) rfl ?_
      exact sn_Mo_fits_48 B hr h
    rw [if_neg c33] at h
    refine Gk_goto (tgt := 44) B d_Mo_fits_36 rfl ?_
    refine Gk_weak [false, false] (L' := [none, none]) rfl ?_
    exact sn_Mo_fits_44 B hr h
  rw [if_pos c7] at h
  refine Gk_iload_n (i := 1) (x := x1) B d_Mo_fits_10 rfl rfl ?_
  refine Gk_bipush (v := 48) B d_Mo_fits_11 (by decide) ?_
  refine Gk_icmp_lt (tgt := 48) B d_Mo_fits_13 rfl (fun c13 => ?_) (fun c13 => ?_)
  · rw [if_pos c13] at h
    refine Gk_weak [false, false] (L' := [none, none]) rfl ?_
    exact sn_Mo_fits_48 B hr h
  rw [if_neg c13] at h
  refine Gk_iload_n (i := 1) (x := x1) B d_Mo_fits_16 rfl rfl ?_
  refine Gk_bipush (v := 57) B d_Mo_fits_17 (by decide) ?_
  refine Gk_icmp_gt (tgt := 48) B d_Mo_fits_19 rfl (fun c19 => ?_) (fun c19 => ?_)
  · rw [if_pos c19] at h
    refine Gk_weak [false, false] (L' := [none, none]) rfl ?_
    exact sn_Mo_fits_48 B hr h
  rw [if_neg c19] at h
  refine Gk_goto (tgt := 44) B d_Mo_fits_22 rfl ?_
  refine Gk_weak [false, false] (L' := [none, none]) rfl ?_
  exact sn_Mo_fits_44 B hr h
theorem sn_Mo_fits {l : Launch} {Γ : gk_G} {x0 : Int32} {x1 : Int32} {M : gk_M} {ρ : Int32 × gk_M} (h : fn_Mo_fits x0 x1 M = some ρ) : gk_Met l gk_Y Γ y_Mo_fits (.code y_Mo_fits c_Mo_fits 2 (some .boolean) :: gk_Y.2.2.2) rm_Mo_fits [.int x0, .int x1] M (some (.int ρ.1)) ρ.2 :=
  gk_start (by decide) (by simp [lg_sl, gk_rc, gk_ic, gk_jc]) [some (.int x0), some (.int x1)] (by simp [gk_as, lv_args, gk_rc, gk_ic, gk_jc]) (fun p e s m args below meth c B hr hin => sn_Mo_fits_0 B hr h)
theorem d_Mo_longest_0 : decode c_Mo_longest 0 = .ok (.aload_n 0, 1) := by decide +kernel
theorem d_Mo_longest_1 : decode c_Mo_longest 1 = .ok (.getfield 93, 3) := by decide +kernel
theorem d_Mo_longest_4 : decode c_Mo_longest 4 = .ok (.iload_n 1, 1) := by decide +kernel
theorem d_Mo_longest_5 : decode c_Mo_longest 5 = .ok (.iaload, 1) := by decide +kernel
theorem d_Mo_longest_6 : decode c_Mo_longest 6 = .ok (.iconst 3, 1) := by decide +kernel
theorem d_Mo_longest_7 : decode c_Mo_longest 7 = .ok (.if_icmp .le 7, 3) := by decide +kernel
theorem d_Mo_longest_10 : decode c_Mo_longest 10 = .ok (.iconst 1, 1) := by decide +kernel
theorem d_Mo_longest_11 : decode c_Mo_longest 11 = .ok (.goto 9, 3) := by decide +kernel
theorem d_Mo_longest_14 : decode c_Mo_longest 14 = .ok (.aload_n 0, 1) := by decide +kernel
theorem d_Mo_longest_15 : decode c_Mo_longest 15 = .ok (.getfield 132, 3) := by decide +kernel
theorem d_Mo_longest_18 : decode c_Mo_longest 18 = .ok (.iload_n 2, 1) := by decide +kernel
theorem d_Mo_longest_19 : decode c_Mo_longest 19 = .ok (.isub, 1) := by decide +kernel
theorem d_Mo_longest_20 : decode c_Mo_longest 20 = .ok (.istore_n 3, 1) := by decide +kernel
theorem d_Mo_longest_21 : decode c_Mo_longest 21 = .ok (.aload_n 0, 1) := by decide +kernel
theorem d_Mo_longest_22 : decode c_Mo_longest 22 = .ok (.getfield 93, 3) := by decide +kernel
theorem d_Mo_longest_25 : decode c_Mo_longest 25 = .ok (.iload_n 1, 1) := by decide +kernel
theorem d_Mo_longest_26 : decode c_Mo_longest 26 = .ok (.iaload, 1) := by decide +kernel
theorem d_Mo_longest_27 : decode c_Mo_longest 27 = .ok (.iconst 3, 1) := by decide +kernel
theorem d_Mo_longest_28 : decode c_Mo_longest 28 = .ok (.if_icmp .ne 23, 3) := by decide +kernel
theorem d_Mo_longest_31 : decode c_Mo_longest 31 = .ok (.aload_n 0, 1) := by decide +kernel
theorem d_Mo_longest_32 : decode c_Mo_longest 32 = .ok (.getfield 96, 3) := by decide +kernel
theorem d_Mo_longest_35 : decode c_Mo_longest 35 = .ok (.bipush 25, 2) := by decide +kernel
theorem d_Mo_longest_37 : decode c_Mo_longest 37 = .ok (.iload_n 1, 1) := by decide +kernel
theorem d_Mo_longest_38 : decode c_Mo_longest 38 = .ok (.iconst 1, 1) := by decide +kernel
theorem d_Mo_longest_39 : decode c_Mo_longest 39 = .ok (.iadd, 1) := by decide +kernel
theorem d_Mo_longest_40 : decode c_Mo_longest 40 = .ok (.imul, 1) := by decide +kernel
theorem d_Mo_longest_41 : decode c_Mo_longest 41 = .ok (.iload_n 2, 1) := by decide +kernel
theorem d_Mo_longest_42 : decode c_Mo_longest 42 = .ok (.iadd, 1) := by decide +kernel
theorem d_Mo_longest_43 : decode c_Mo_longest 43 = .ok (.baload, 1) := by decide +kernel
theorem d_Mo_longest_44 : decode c_Mo_longest 44 = .ok (.ifCond .eq 7, 3) := by decide +kernel
theorem d_Mo_longest_47 : decode c_Mo_longest 47 = .ok (.iconst 0, 1) := by decide +kernel
theorem d_Mo_longest_48 : decode c_Mo_longest 48 = .ok (.goto 4, 3) := by decide +kernel
theorem d_Mo_longest_51 : decode c_Mo_longest 51 = .ok (.iconst (-1), 1) := by decide +kernel
theorem d_Mo_longest_52 : decode c_Mo_longest 52 = .ok (.istore 4, 2) := by decide +kernel
theorem d_Mo_longest_54 : decode c_Mo_longest 54 = .ok (.iconst 1, 1) := by decide +kernel
theorem d_Mo_longest_55 : decode c_Mo_longest 55 = .ok (.istore 5, 2) := by decide +kernel
theorem d_Mo_longest_57 : decode c_Mo_longest 57 = .ok (.iload 5, 2) := by decide +kernel
theorem d_Mo_longest_59 : decode c_Mo_longest 59 = .ok (.iload_n 3, 1) := by decide +kernel
theorem d_Mo_longest_60 : decode c_Mo_longest 60 = .ok (.if_icmp .gt 74, 3) := by decide +kernel
theorem d_Mo_longest_63 : decode c_Mo_longest 63 = .ok (.iload_n 2, 1) := by decide +kernel
theorem d_Mo_longest_64 : decode c_Mo_longest 64 = .ok (.iload 5, 2) := by decide +kernel
theorem d_Mo_longest_66 : decode c_Mo_longest 66 = .ok (.iadd, 1) := by decide +kernel
theorem d_Mo_longest_67 : decode c_Mo_longest 67 = .ok (.aload_n 0, 1) := by decide +kernel
theorem d_Mo_longest_68 : decode c_Mo_longest 68 = .ok (.getfield 132, 3) := by decide +kernel
theorem d_Mo_longest_71 : decode c_Mo_longest 71 = .ok (.if_icmp .gt 63, 3) := by decide +kernel
theorem d_Mo_longest_74 : decode c_Mo_longest 74 = .ok (.aload_n 0, 1) := by decide +kernel
theorem d_Mo_longest_75 : decode c_Mo_longest 75 = .ok (.getfield 93, 3) := by decide +kernel
theorem d_Mo_longest_78 : decode c_Mo_longest 78 = .ok (.iload_n 1, 1) := by decide +kernel
theorem d_Mo_longest_79 : decode c_Mo_longest 79 = .ok (.iaload, 1) := by decide +kernel
theorem d_Mo_longest_80 : decode c_Mo_longest 80 = .ok (.aload_n 0, 1) := by decide +kernel
theorem d_Mo_longest_81 : decode c_Mo_longest 81 = .ok (.getfield 78, 3) := by decide +kernel
theorem d_Mo_longest_84 : decode c_Mo_longest 84 = .ok (.iload_n 2, 1) := by decide +kernel
theorem d_Mo_longest_85 : decode c_Mo_longest 85 = .ok (.iload 5, 2) := by decide +kernel
theorem d_Mo_longest_87 : decode c_Mo_longest 87 = .ok (.iadd, 1) := by decide +kernel
theorem d_Mo_longest_88 : decode c_Mo_longest 88 = .ok (.iconst 1, 1) := by decide +kernel
theorem d_Mo_longest_89 : decode c_Mo_longest 89 = .ok (.isub, 1) := by decide +kernel
theorem d_Mo_longest_90 : decode c_Mo_longest 90 = .ok (.caload, 1) := by decide +kernel
theorem d_Mo_longest_91 : decode c_Mo_longest 91 = .ok (.invokestatic 135, 3) := by decide +kernel
theorem d_Mo_longest_94 : decode c_Mo_longest 94 = .ok (.ifCond .ne 6, 3) := by decide +kernel
theorem d_Mo_longest_97 : decode c_Mo_longest 97 = .ok (.iload 4, 2) := by decide +kernel
theorem d_Mo_longest_99 : decode c_Mo_longest 99 = .ok (.ireturn, 1) := by decide +kernel
theorem d_Mo_longest_100 : decode c_Mo_longest 100 = .ok (.aload_n 0, 1) := by decide +kernel
theorem d_Mo_longest_101 : decode c_Mo_longest 101 = .ok (.getfield 96, 3) := by decide +kernel
theorem d_Mo_longest_104 : decode c_Mo_longest 104 = .ok (.bipush 25, 2) := by decide +kernel
theorem d_Mo_longest_106 : decode c_Mo_longest 106 = .ok (.iload_n 1, 1) := by decide +kernel
theorem d_Mo_longest_107 : decode c_Mo_longest 107 = .ok (.iconst 1, 1) := by decide +kernel
theorem d_Mo_longest_108 : decode c_Mo_longest 108 = .ok (.iadd, 1) := by decide +kernel
theorem d_Mo_longest_109 : decode c_Mo_longest 109 = .ok (.imul, 1) := by decide +kernel
theorem d_Mo_longest_110 : decode c_Mo_longest 110 = .ok (.iload_n 2, 1) := by decide +kernel
theorem d_Mo_longest_111 : decode c_Mo_longest 111 = .ok (.iadd, 1) := by decide +kernel
theorem d_Mo_longest_112 : decode c_Mo_longest 112 = .ok (.iload 5, 2) := by decide +kernel
theorem d_Mo_longest_114 : decode c_Mo_longest 114 = .ok (.iadd, 1) := by decide +kernel
theorem d_Mo_longest_115 : decode c_Mo_longest 115 = .ok (.baload, 1) := by decide +kernel
theorem d_Mo_longest_116 : decode c_Mo_longest 116 = .ok (.ifCond .eq 8, 3) := by decide +kernel
theorem d_Mo_longest_119 : decode c_Mo_longest 119 = .ok (.iload 5, 2) := by decide +kernel
theorem d_Mo_longest_121 : decode c_Mo_longest 121 = .ok (.goto 5, 3) := by decide +kernel
theorem d_Mo_longest_124 : decode c_Mo_longest 124 = .ok (.iload 4, 2) := by decide +kernel
theorem d_Mo_longest_126 : decode c_Mo_longest 126 = .ok (.istore 4, 2) := by decide +kernel
theorem d_Mo_longest_128 : decode c_Mo_longest 128 = .ok (.iinc 5 1, 3) := by decide +kernel
theorem d_Mo_longest_131 : decode c_Mo_longest 131 = .ok (.goto (-74), 3) := by decide +kernel
theorem d_Mo_longest_134 : decode c_Mo_longest 134 = .ok (.iload 4, 2) := by decide +kernel
theorem d_Mo_longest_136 : decode c_Mo_longest 136 = .ok (.ireturn, 1) := by decide +kernel
set_option maxHeartbeats 4000000 in
set_option maxRecDepth 100000 in
theorem sn_Mo_longest_134 {l : Launch} {Γ : gk_G} {p : Program} {e : Env} {s : State} {m : MethodId} {args : Array Value} {below : List Frame} {meth : Method} {c : Code} (B : gk_B p s m args meth c gk_Y Γ c_Mo_longest 6 "StageDispatcherModel") (hr : meth.sig.returnType = (some .int)) {ρ : Int32 × gk_M}   {x4 : Int32} {M : gk_M} (h : fn_Mo_longest_134  x4 M = some ρ) : Gk p l e rm_Mo_longest s m args below meth c gk_Y Γ 6 (MQ below (gk_Q gk_Y Γ (some (.int ρ.1)) ρ.2) args s rm_Mo_longest.cells rm_Mo_longest.slots (fun q => Γ.2.2 ≤ q)) 0 0 M 134 [none, none, none, none, some (.int x4), none] [] := by
  unfold fn_Mo_longest_134 at h
  refine Gk_iload (x := x4) B d_Mo_longest_134 rfl ?_
  cases h
  exact Gk_iret B hr d_Mo_longest_136 rfl (by decide) (by decide) rfl
set_option maxHeartbeats 4000000 in
set_option maxRecDepth 100000 in
theorem sn_Mo_longest_126 {l : Launch} {Γ : gk_G} {p : Program} {e : Env} {s : State} {m : MethodId} {args : Array Value} {below : List Frame} {meth : Method} {c : Code} (B : gk_B p s m args meth c gk_Y Γ c_Mo_longest 6 "StageDispatcherModel") (hr : meth.sig.returnType = (some .int)) {ρ : Int32 × gk_M} {k57 : Option Nat → Int32 → Int32 → Int32 → Int32 → Int32 → gk_M → Option (Int32 × gk_M)} (H57 : ∀ (a0 : Option Nat) (x1 : Int32) (x2 : Int32) (x3 : Int32) (x4 : Int32) (x5 : Int32) (M : gk_M), k57 a0 x1 x2 x3 x4 x5 M = some ρ → Gk p l e rm_Mo_longest s m args below meth c gk_Y Γ 6 (MQ below (gk_Q gk_Y Γ (some (.int ρ.1)) ρ.2) args s rm_Mo_longest.cells rm_Mo_longest.slots (fun q => Γ.2.2 ≤ q)) 0 0 M 57 [some (va_rf a0), some (.int x1), some (.int x2), some (.int x3), some (.int x4), some (.int x5)] []) {a0 : Option Nat} {x1 : Int32} {x2 : Int32} {x3 : Int32} {x5 : Int32} {s0 : Int32} {M : gk_M} (h : fn_Mo_longest_126 k57 a0 x1 x2 x3 x5 s0 M = some ρ) : Gk p l e rm_Mo_longest s m args below meth c gk_Y Γ 6 (MQ below (gk_Q gk_Y Γ (some (.int ρ.1)) ρ.2) args s rm_Mo_longest.cells rm_Mo_longest.slots (fun q => Γ.2.2 ≤ q)) 0 0 M 126 [some (va_rf a0), some (.int x1), some (.int x2), some (.int x3), none, some (.int x5)] [.int s0] := by
  unfold fn_Mo_longest_126 at h
  refine Gk_istore (L' := [some (va_rf a0), some (.int x1), some (.int x2), some (.int x3), some (.int s0), some (.int x5)]) B d_Mo_longest_126 (by decide) (gk_c1_i rfl) rfl ?_
  refine Gk_iinc (x := x5) (v := (x5 + 1)) (L' := [some (va_rf a0), some (.int x1), some (.int x2), some (.int x3), some (.int s0), some (.int (x5 + 1))]) B d_Mo_longest_128 rfl (congrArg (fun z => x5 + z) (by decide : Int32.ofInt 1 = 1)) (by decide) (gk_c1_i rfl) rfl ?_
  refine Gk_goto (tgt := 57) B d_Mo_longest_131 rfl ?_
  exact H57 a0 x1 x2 x3 s0 (x5 + 1) M h
set_option maxHeartbeats 4000000 in
set_option maxRecDepth 100000 in
theorem sn_Mo_longest_57_bd {l : Launch} {Γ : gk_G} {p : Program} {e : Env} {s : State} {m : MethodId} {args : Array Value} {below : List Frame} {meth : Method} {c : Code} (B : gk_B p s m args meth c gk_Y Γ c_Mo_longest 6 "StageDispatcherModel") (hr : meth.sig.returnType = (some .int)) {ρ : Int32 × gk_M} {k57 : Option Nat → Int32 → Int32 → Int32 → Int32 → Int32 → gk_M → Option (Int32 × gk_M)} (H57 : ∀ (a0 : Option Nat) (x1 : Int32) (x2 : Int32) (x3 : Int32) (x4 : Int32) (x5 : Int32) (M : gk_M), k57 a0 x1 x2 x3 x4 x5 M = some ρ → Gk p l e rm_Mo_longest s m args below meth c gk_Y Γ 6 (MQ below (gk_Q gk_Y Γ (some (.int ρ.1)) ρ.2) args s rm_Mo_longest.cells rm_Mo_longest.slots (fun q => Γ.2.2 ≤ q)) 0 0 M 57 [some (va_rf a0), some (.int x1), some (.int x2), some (.int x3), some (.int x4), some (.int x5)] []) {a0 : Option Nat} {x1 : Int32} {x2 : Int32} {x3 : Int32} {x4 : Int32} {x5 : Int32} {M : gk_M} (h : fn_Mo_longest_57_bd k57 a0 x1 x2 x3 x4 x5 M = some ρ) : Gk p l e rm_Mo_longest s m args below meth c gk_Y Γ 6 (MQ below (gk_Q gk_Y Γ (some (.int ρ.1)) ρ.2) args s rm_Mo_longest.cells rm_Mo_longest.slots (fun q => Γ.2.2 ≤ q)) 0 0 M 57 [some (va_rf a0), some (.int x1), some (.int x2), some (.int x3), some (.int x4), some (.int x5)] [] := by
  unfold fn_Mo_longest_57_bd at h
  refine Gk_iload (x := x5) B d_Mo_longest_57 rfl ?_
  refine Gk_iload_n (i := 3) (x := x3) B d_Mo_longest_59 rfl rfl ?_
  refine Gk_icmp_gt (tgt := 134) B d_Mo_longest_60 rfl (fun c60 => ?_) (fun c60 => ?_)
  · rw [if_pos c60] at h
    refine Gk_weak [false, false, false, false, true, false] (L' := [none, none, none, none, some (.int x4), none]) rfl ?_
    exact sn_Mo_longest_134 B hr h
  rw [if_neg c60] at h
  refine Gk_iload_n (i := 2) (x := x2) B d_Mo_longest_63 rfl rfl ?_
  refine Gk_iload (x := x5) B d_Mo_longest_64 rfl ?_
  refine Gk_iadd B d_Mo_longest_66 ?_
  refine Gk_aload_n (i := 0) (r := a0) B d_Mo_longest_67 rfl rfl ?_
  obtain ⟨v68, h68, h⟩ := gk_bind h
  refine Gk_getI (j := 29) B d_Mo_longest_68 in_Mo cl_Mo (by decide) tw_784 rfl h68 ?_
  refine Gk_icmp_gt (tgt := 134) B d_Mo_longest_71 rfl (fun c71 => ?_) (fun c71 => ?_)
  · rw [if_pos c71] at h
    refine Gk_weak [false, false, false, false, true, false] (L' := [none, none, none, none, some (.int x4), none]) rfl ?_
    exact sn_Mo_longest_134 B hr h
  rw [if_neg c71] at h
  refine Gk_aload_n (i := 0) (r := a0) B d_Mo_longest_74 rfl rfl ?_
  obtain ⟨v75, h75, h⟩ := gk_bind h
  refine Gk_getR (j := 48) B d_Mo_longest_75 in_Mo cl_Mo (by decide) tw_803 rfl h75 ?_
  refine Gk_iload_n (i := 1) (x := x1) B d_Mo_longest_78 rfl rfl ?_
  obtain ⟨v79, h79, h⟩ := gk_bind h
  refine Gk_iaload B d_Mo_longest_79 ty_0 h79 ?_
  refine Gk_aload_n (i := 0) (r := a0) B d_Mo_longest_80 rfl rfl ?_
  obtain ⟨v81, h81, h⟩ := gk_bind h
  refine Gk_getR (j := 28) B d_Mo_longest_81 in_Mo cl_Mo (by decide) tw_783 rfl h81 ?_
  refine Gk_iload_n (i := 2) (x := x2) B d_Mo_longest_84 rfl rfl ?_
  refine Gk_iload (x := x5) B d_Mo_longest_85 rfl ?_
  refine Gk_iadd B d_Mo_longest_87 ?_
  refine Gk_iconst (v := 1) B d_Mo_longest_88 (by decide) ?_
  refine Gk_isub B d_Mo_longest_89 ?_
  obtain ⟨v90, h90, h⟩ := gk_bind h
  refine Gk_caload B d_Mo_longest_90 ty_1 h90 ?_
  obtain ⟨w91, h91, h⟩ := gk_bind h
  refine Gk_callS (As := [.int v79, .int v90]) (rest := []) (st1 := [.int w91.1]) (k1 := 0) (n1 := 0) B gk_hG d_Mo_longest_91 (sn_Mo_fits h91) tw_1016 tw_1014 tw_1015 tw_48 nm_Mo_fits rfl (by decide) ⟨by decide, by decide⟩ ⟨by decide, by decide⟩ rfl rfl rfl rfl ?_
  refine Gk_if_ne (tgt := 100) B d_Mo_longest_94 rfl (fun c94 => ?_) (fun c94 => ?_)
  · rw [if_neg c94] at h
    refine Gk_aload_n (i := 0) (r := a0) B d_Mo_longest_100 rfl rfl ?_
    obtain ⟨v101, h101, h⟩ := gk_bind h
    refine Gk_getR (j := 49) B d_Mo_longest_101 in_Mo cl_Mo (by decide) tw_804 rfl h101 ?_
    refine Gk_bipush (v := 25) B d_Mo_longest_104 (by decide) ?_
    refine Gk_iload_n (i := 1) (x := x1) B d_Mo_longest_106 rfl rfl ?_
    refine Gk_iconst (v := 1) B d_Mo_longest_107 (by decide) ?_
    refine Gk_iadd B d_Mo_longest_108 ?_
    refine Gk_imul B d_Mo_longest_109 ?_
    refine Gk_iload_n (i := 2) (x := x2) B d_Mo_longest_110 rfl rfl ?_
    refine Gk_iadd B d_Mo_longest_111 ?_
    refine Gk_iload (x := x5) B d_Mo_longest_112 rfl ?_
    refine Gk_iadd B d_Mo_longest_114 ?_
    obtain ⟨v115, h115, h⟩ := gk_bind h
    refine Gk_zaload B d_Mo_longest_115 ty_2 h115 ?_
    refine Gk_if_eq (tgt := 124) B d_Mo_longest_116 rfl (fun c116 => ?_) (fun c116 => ?_)
    · rw [if_pos c116] at h
      refine Gk_iload (x := x4) B d_Mo_longest_124 rfl ?_
      refine Gk_weak [true, true, true, true, false, true] (L' := [some (va_rf a0), some (.int x1), some (.int x2), some (.int x3), none, some (.int x5)]) rfl ?_
      exact sn_Mo_longest_126 B hr H57 h
    rw [if_neg c116] at h
    refine Gk_iload (x := x5) B d_Mo_longest_119 rfl ?_
    refine Gk_goto (tgt := 126) B d_Mo_longest_121 rfl ?_
    refine Gk_weak [true, true, true, true, false, true] (L' := [some (va_rf a0), some (.int x1), some (.int x2), some (.int x3), none, some (.int x5)]) rfl ?_
    exact sn_Mo_longest_126 B hr H57 h
  rw [if_pos c94] at h
  refine Gk_iload (x := x4) B d_Mo_longest_97 rfl ?_
  cases h
  exact Gk_iret B hr d_Mo_longest_99 rfl (by decide) (by decide) rfl
set_option maxHeartbeats 4000000 in
set_option maxRecDepth 100000 in
theorem sn_Mo_longest_57 {l : Launch} {Γ : gk_G} {p : Program} {e : Env} {s : State} {m : MethodId} {args : Array Value} {below : List Frame} {meth : Method} {c : Code} (B : gk_B p s m args meth c gk_Y Γ c_Mo_longest 6 "StageDispatcherModel") (hr : meth.sig.returnType = (some .int)) {ρ : Int32 × gk_M}   {a0 : Option Nat} {x1 : Int32} {x2 : Int32} {x3 : Int32} {x4 : Int32} {x5 : Int32} {M : gk_M} (h : fn_Mo_longest_57  a0 x1 x2 x3 x4 x5 M = some ρ) : Gk p l e rm_Mo_longest s m args below meth c gk_Y Γ 6 (MQ below (gk_Q gk_Y Γ (some (.int ρ.1)) ρ.2) args s rm_Mo_longest.cells rm_Mo_longest.slots (fun q => Γ.2.2 ≤ q)) 0 0 M 57 [some (va_rf a0), some (.int x1), some (.int x2), some (.int x3), some (.int x4), some (.int x5)] [] := by
  unfold fn_Mo_longest_57 at h
  exact gk_loop_sound (α := Option Nat × Int32 × Int32 × Int32 × Int32 × Int32 × gk_M) (P := fun a => Gk p l e rm_Mo_longest s m args below meth c gk_Y Γ 6 (MQ below (gk_Q gk_Y Γ (some (.int ρ.1)) ρ.2) args s rm_Mo_longest.cells rm_Mo_longest.slots (fun q => Γ.2.2 ≤ q)) 0 0 a.2.2.2.2.2.2 57 [some (va_rf a.1), some (.int a.2.1), some (.int a.2.2.1), some (.int a.2.2.2.1), some (.int a.2.2.2.2.1), some (.int a.2.2.2.2.2.1)] []) (fun kk a Hk hb => sn_Mo_longest_57_bd B hr (fun a0 x1 x2 x3 x4 x5 M hh => Hk (a0, x1, x2, x3, x4, x5, M) hh) hb) _ _ h
set_option maxHeartbeats 4000000 in
set_option maxRecDepth 100000 in
theorem sn_Mo_longest_52 {l : Launch} {Γ : gk_G} {p : Program} {e : Env} {s : State} {m : MethodId} {args : Array Value} {below : List Frame} {meth : Method} {c : Code} (B : gk_B p s m args meth c gk_Y Γ c_Mo_longest 6 "StageDispatcherModel") (hr : meth.sig.returnType = (some .int)) {ρ : Int32 × gk_M}   {a0 : Option Nat} {x1 : Int32} {x2 : Int32} {x3 : Int32} {s0 : Int32} {M : gk_M} (h : fn_Mo_longest_52  a0 x1 x2 x3 s0 M = some ρ) : Gk p l e rm_Mo_longest s m args below meth c gk_Y Γ 6 (MQ below (gk_Q gk_Y Γ (some (.int ρ.1)) ρ.2) args s rm_Mo_longest.cells rm_Mo_longest.slots (fun q => Γ.2.2 ≤ q)) 0 0 M 52 [some (va_rf a0), some (.int x1), some (.int x2), some (.int x3), none, none] [.int s0] := by
  unfold fn_Mo_longest_52 at h
  refine Gk_istore (L' := [some (va_rf a0), some (.int x1), some (.int x2), some (.int x3), some (.int s0), none]) B d_Mo_longest_52 (by decide) (gk_c1_i rfl) rfl ?_
  refine Gk_iconst (v := 1) B d_Mo_longest_54 (by decide) ?_
  refine Gk_istore (L' := [some (va_rf a0), some (.int x1), some (.int x2), some (.int x3), some (.int s0), some (.int 1)]) B d_Mo_longest_55 (by decide) (gk_c1_i rfl) rfl ?_
  exact sn_Mo_longest_57 B hr h
set_option maxHeartbeats 4000000 in
set_option maxRecDepth 100000 in
theorem sn_Mo_longest_51 {l : Launch} {Γ : gk_G} {p : Program} {e : Env} {s : State} {m : MethodId} {args : Array Value} {below : List Frame} {meth : Method} {c : Code} (B : gk_B p s m args meth c gk_Y Γ c_Mo_longest 6 "StageDispatcherModel") (hr : meth.sig.returnType = (some .int)) {ρ : Int32 × gk_M}   {a0 : Option Nat} {x1 : Int32} {x2 : Int32} {x3 : Int32} {M : gk_M} (h : fn_Mo_longest_51  a0 x1 x2 x3 M = some ρ) : Gk p l e rm_Mo_longest s m args below meth c gk_Y Γ 6 (MQ below (gk_Q gk_Y Γ (some (.int ρ.1)) ρ.2) args s rm_Mo_longest.cells rm_Mo_longest.slots (fun q => Γ.2.2 ≤ q)) 0 0 M 51 [some (va_rf a0), some (.int x1), some (.int x2), some (.int x3), none, none] [] := by
  unfold fn_Mo_longest_51 at h
  refine Gk_iconst (v := (-1)) B d_Mo_longest_51 (by decide) ?_
  exact sn_Mo_longest_52 B hr h
set_option maxHeartbeats 4000000 in
set_option maxRecDepth 100000 in
theorem sn_Mo_longest_20 {l : Launch} {Γ : gk_G} {p : Program} {e : Env} {s : State} {m : MethodId} {args : Array Value} {below : List Frame} {meth : Method} {c : Code} (B : gk_B p s m args meth c gk_Y Γ c_Mo_longest 6 "StageDispatcherModel") (hr : meth.sig.returnType = (some .int)) {ρ : Int32 × gk_M}   {a0 : Option Nat} {x1 : Int32} {x2 : Int32} {s0 : Int32} {M : gk_M} (h : fn_Mo_longest_20  a0 x1 x2 s0 M = some ρ) : Gk p l e rm_Mo_longest s m args below meth c gk_Y Γ 6 (MQ below (gk_Q gk_Y Γ (some (.int ρ.1)) ρ.2) args s rm_Mo_longest.cells rm_Mo_longest.slots (fun q => Γ.2.2 ≤ q)) 0 0 M 20 [some (va_rf a0), some (.int x1), some (.int x2), none, none, none] [.int s0] := by
  unfold fn_Mo_longest_20 at h
  refine Gk_istore_n (i := 3) (L' := [some (va_rf a0), some (.int x1), some (.int x2), some (.int s0), none, none]) B d_Mo_longest_20 rfl (by decide) (gk_c1_i rfl) rfl ?_
  refine Gk_aload_n (i := 0) (r := a0) B d_Mo_longest_21 rfl rfl ?_
  obtain ⟨v22, h22, h⟩ := gk_bind h
  refine Gk_getR (j := 48) B d_Mo_longest_22 in_Mo cl_Mo (by decide) tw_803 rfl h22 ?_
  refine Gk_iload_n (i := 1) (x := x1) B d_Mo_longest_25 rfl rfl ?_
  obtain ⟨v26, h26, h⟩ := gk_bind h
  refine Gk_iaload B d_Mo_longest_26 ty_0 h26 ?_
  refine Gk_iconst (v := 3) B d_Mo_longest_27 (by decide) ?_
  refine Gk_icmp_ne (tgt := 51) B d_Mo_longest_28 rfl (fun c28 => ?_) (fun c28 => ?_)
  · rw [if_neg c28] at h
    exact sn_Mo_longest_51 B hr h
  rw [if_pos c28] at h
  refine Gk_aload_n (i := 0) (r := a0) B d_Mo_longest_31 rfl rfl ?_
  obtain ⟨v32, h32, h⟩ := gk_bind h
  refine Gk_getR (j := 49) B d_Mo_longest_32 in_Mo cl_Mo (by decide) tw_804 rfl h32 ?_
  refine Gk_bipush (v := 25) B d_Mo_longest_35 (by decide) ?_
  refine Gk_iload_n (i := 1) (x := x1) B d_Mo_longest_37 rfl rfl ?_
  refine Gk_iconst (v := 1) B d_Mo_longest_38 (by decide) ?_
  refine Gk_iadd B d_Mo_longest_39 ?_
  refine Gk_imul B d_Mo_longest_40 ?_
  refine Gk_iload_n (i := 2) (x := x2) B d_Mo_longest_41 rfl rfl ?_
  refine Gk_iadd B d_Mo_longest_42 ?_
  obtain ⟨v43, h43, h⟩ := gk_bind h
  refine Gk_zaload B d_Mo_longest_43 ty_2 h43 ?_
  refine Gk_if_eq (tgt := 51) B d_Mo_longest_44 rfl (fun c44 => ?_) (fun c44 => ?_)
  · rw [if_pos c44] at h
    exact sn_Mo_longest_51 B hr h
  rw [if_neg c44] at h
  refine Gk_iconst (v := 0) B d_Mo_longest_47 (by decide) ?_
  refine Gk_goto (tgt := 52) B d_Mo_longest_48 rfl ?_
  exact sn_Mo_longest_52 B hr h
set_option maxHeartbeats 4000000 in
set_option maxRecDepth 100000 in
theorem sn_Mo_longest_0 {l : Launch} {Γ : gk_G} {p : Program} {e : Env} {s : State} {m : MethodId} {args : Array Value} {below : List Frame} {meth : Method} {c : Code} (B : gk_B p s m args meth c gk_Y Γ c_Mo_longest 6 "StageDispatcherModel") (hr : meth.sig.returnType = (some .int)) {ρ : Int32 × gk_M}   {a0 : Option Nat} {x1 : Int32} {x2 : Int32} {M : gk_M} (h : fn_Mo_longest  a0 x1 x2 M = some ρ) : Gk p l e rm_Mo_longest s m args below meth c gk_Y Γ 6 (MQ below (gk_Q gk_Y Γ (some (.int ρ.1)) ρ.2) args s rm_Mo_longest.cells rm_Mo_longest.slots (fun q => Γ.2.2 ≤ q)) 0 0 M 0 [some (va_rf a0), some (.int x1), some (.int x2), none, none, none] [] := by
  unfold fn_Mo_longest at h
  refine Gk_aload_n (i := 0) (r := a0) B d_Mo_longest_0 rfl rfl ?_
  obtain ⟨v1, h1, h⟩ := gk_bind h
  refine Gk_getR (j := 48) B d_Mo_longest_1 in_Mo cl_Mo (by decide) tw_803 rfl h1 ?_
  refine Gk_iload_n (i := 1) (x := x1) B d_Mo_longest_4 rfl rfl ?_
  obtain ⟨v5, h5, h⟩ := gk_bind h
  refine Gk_iaload B d_Mo_longest_5 ty_0 h5 ?_
  refine Gk_iconst (v := 3) B d_Mo_longest_6 (by decide) ?_
  refine Gk_icmp_le (tgt := 14) B d_Mo_longest_7 rfl (fun c7 => ?_) (fun c7 => ?_)
  · rw [if_pos c7] at h
    refine Gk_aload_n (i := 0) (r := a0) B d_Mo_longest_14 rfl rfl ?_
    obtain ⟨v15, h15, h⟩ := gk_bind h
    refine Gk_getI (j := 29) B d_Mo_longest_15 in_Mo cl_Mo (by decide) tw_784 rfl h15 ?_
    refine Gk_iload_n (i := 2) (x := x2) B d_Mo_longest_18 rfl rfl ?_
    refine Gk_isub B d_Mo_longest_19 ?_
    exact sn_Mo_longest_20 B hr h
  rw [if_neg c7] at h
  refine Gk_iconst (v := 1) B d_Mo_longest_10 (by decide) ?_
  refine Gk_goto (tgt := 20) B d_Mo_longest_11 rfl ?_
  exact sn_Mo_longest_20 B hr h
theorem sn_Mo_longest {l : Launch} {Γ : gk_G} {a0 : Option Nat} {x1 : Int32} {x2 : Int32} {M : gk_M} {ρ : Int32 × gk_M} (h : fn_Mo_longest a0 x1 x2 M = some ρ) : gk_Met l gk_Y Γ y_Mo_longest (.code y_Mo_longest c_Mo_longest 6 (some .int) :: gk_Y.2.2.2) rm_Mo_longest [va_rf a0, .int x1, .int x2] M (some (.int ρ.1)) ρ.2 :=
  gk_start (by decide) (by simp [lg_sl, gk_rc, gk_ic, gk_jc]) [some (va_rf a0), some (.int x1), some (.int x2), none, none, none] (by simp [gk_as, lv_args, gk_rc, gk_ic, gk_jc]) (fun p e s m args below meth c B hr hin => sn_Mo_longest_0 B hr h)
