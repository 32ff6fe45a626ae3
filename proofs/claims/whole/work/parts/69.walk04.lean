theorem d_Mo_mapper_0 : decode c_Mo_mapper 0 = .ok (.iload_n 1, 1) := by decide +kernel
theorem d_Mo_mapper_1 : decode c_Mo_mapper 1 = .ok (.iconst 1, 1) := by decide +kernel
theorem d_Mo_mapper_2 : decode c_Mo_mapper 2 = .ok (.bipush 15, 2) := by decide +kernel
theorem d_Mo_mapper_4 : decode c_Mo_mapper 4 = .ok (.invokestatic 167, 3) := by decide +kernel
theorem d_Mo_mapper_7 : decode c_Mo_mapper 7 = .ok (.ifCond .ne 19, 3) := by decide +kernel
theorem d_Mo_mapper_10 : decode c_Mo_mapper 10 = .ok (.iload_n 2, 1) := by decide +kernel
theorem d_Mo_mapper_11 : decode c_Mo_mapper 11 = .ok (.ifCond .eq 17, 3) := by decide +kernel
theorem d_Mo_mapper_14 : decode c_Mo_mapper 14 = .ok (.iload_n 2, 1) := by decide +kernel
theorem d_Mo_mapper_15 : decode c_Mo_mapper 15 = .ok (.bipush 100, 2) := by decide +kernel
theorem d_Mo_mapper_17 : decode c_Mo_mapper 17 = .ok (.sipush 599, 3) := by decide +kernel
theorem d_Mo_mapper_20 : decode c_Mo_mapper 20 = .ok (.invokestatic 167, 3) := by decide +kernel
theorem d_Mo_mapper_23 : decode c_Mo_mapper 23 = .ok (.ifCond .eq 5, 3) := by decide +kernel
theorem d_Mo_mapper_26 : decode c_Mo_mapper 26 = .ok (.iconst 0, 1) := by decide +kernel
theorem d_Mo_mapper_27 : decode c_Mo_mapper 27 = .ok (.ireturn, 1) := by decide +kernel
theorem d_Mo_mapper_28 : decode c_Mo_mapper 28 = .ok (.aload_n 0, 1) := by decide +kernel
theorem d_Mo_mapper_29 : decode c_Mo_mapper 29 = .ok (.getfield 69, 3) := by decide +kernel
theorem d_Mo_mapper_32 : decode c_Mo_mapper 32 = .ok (.iload_n 1, 1) := by decide +kernel
theorem d_Mo_mapper_33 : decode c_Mo_mapper 33 = .ok (.iload_n 2, 1) := by decide +kernel
theorem d_Mo_mapper_34 : decode c_Mo_mapper 34 = .ok (.iastore, 1) := by decide +kernel
theorem d_Mo_mapper_35 : decode c_Mo_mapper 35 = .ok (.iconst 1, 1) := by decide +kernel
theorem d_Mo_mapper_36 : decode c_Mo_mapper 36 = .ok (.ireturn, 1) := by decide +kernel
set_option maxHeartbeats 4000000 in
set_option maxRecDepth 100000 in
theorem sn_Mo_mapper_28 {l : Launch} {Γ : gk_G} {p : Program} {e : Env} {s : State} {m : MethodId} {args : Array Value} {below : List Frame} {meth : Method} {c : Code} (B : gk_B p s m args meth c gk_Y Γ c_Mo_mapper 3 "StageDispatcherModel") (hr : meth.sig.returnType = (some .boolean)) {ρ : Int32 × gk_M}   {a0 : Option Nat} {x1 : Int32} {x2 : Int32} {M : gk_M} (h : fn_Mo_mapper_28  a0 x1 x2 M = some ρ) : Gk p l e rm_Mo_mapper s m args below meth c gk_Y Γ 3 (MQ below (gk_Q gk_Y Γ (some (.int ρ.1)) ρ.2) args s rm_Mo_mapper.cells rm_Mo_mapper.slots (fun q => Γ.2.2 ≤ q)) 0 0 M 28 [some (va_rf a0), some (.int x1), some (.int x2)] [] := by
  unfold fn_Mo_mapper_28 at h
  refine Gk_aload_n (i := 0) (r := a0) B d_Mo_mapper_28 rfl rfl ?_
  obtain ⟨v29, h29, h⟩ := gk_bind h
  refine Gk_getR (j := 24) B d_Mo_mapper_29 in_Mo cl_Mo (by decide) tw_779 rfl h29 ?_
  refine Gk_iload_n (i := 1) (x := x1) B d_Mo_mapper_32 rfl rfl ?_
  refine Gk_iload_n (i := 2) (x := x2) B d_Mo_mapper_33 rfl rfl ?_
  obtain ⟨M34, h34, h⟩ := gk_bind h
  refine Gk_iastore B d_Mo_mapper_34 ty_0 h34 ?_
  refine Gk_iconst (v := 1) B d_Mo_mapper_35 (by decide) ?_
  obtain ⟨z, hz, h⟩ := gk_bind h
  obtain ⟨hz1, hz2⟩ := gk_z_eq hz
  cases h
  subst hz1
  exact Gk_iret B hr d_Mo_mapper_36 (gk_nz hz2) (by decide) (by decide) rfl
set_option maxHeartbeats 4000000 in
set_option maxRecDepth 100000 in
theorem sn_Mo_mapper_0 {l : Launch} {Γ : gk_G} {p : Program} {e : Env} {s : State} {m : MethodId} {args : Array Value} {below : List Frame} {meth : Method} {c : Code} (B : gk_B p s m args meth c gk_Y Γ c_Mo_mapper 3 "StageDispatcherModel") (hr : meth.sig.returnType = (some .boolean)) {ρ : Int32 × gk_M}   {a0 : Option Nat} {x1 : Int32} {x2 : Int32} {M : gk_M} (h : fn_Mo_mapper  a0 x1 x2 M = some ρ) : Gk p l e rm_Mo_mapper s m args below meth c gk_Y Γ 3 (MQ below (gk_Q gk_Y Γ (some (.int ρ.1)) ρ.2) args s rm_Mo_mapper.cells rm_Mo_mapper.slots (fun q => Γ.2.2 ≤ q)) 0 0 M 0 [some (va_rf a0), some (.int x1), some (.int x2)] [] := by
  unfold fn_Mo_mapper at h
  refine Gk_iload_n (i := 1) (x := x1) B d_Mo_mapper_0 rfl rfl ?_
  refine Gk_iconst (v := 1) B d_Mo_mapper_1 (by decide) ?_
  refine Gk_bipush (v := 15) B d_Mo_mapper_2 (by decide) ?_
  obtain ⟨w4, h4, h⟩ := gk_bind h
  refine Gk_callS (As := [.int x1, .int 1, .int 15]) (rest := []) (st1 := [.int w4.1]) (k1 := 0) (n1 := 0) B gk_hG d_Mo_mapper_4 (sn_Mo_outside h4) tw_954 tw_952 tw_953 tw_48 nm_Mo_outside rfl (by decide) ⟨by decide, by decide⟩ ⟨by decide, by decide⟩ rfl rfl rfl rfl ?_
  refine Gk_if_ne (tgt := 26) B d_Mo_mapper_7 rfl (fun c7 => ?_) (fun c7 => ?_)
  · rw [if_neg c7] at h
    refine Gk_iconst (v := 0) B d_Mo_mapper_26 (by decide) ?_
    obtain ⟨z, hz, h⟩ := gk_bind h
    obtain ⟨hz1, hz2⟩ := gk_z_eq hz
    cases h
    subst hz1
    exact Gk_iret B hr d_Mo_mapper_27 (gk_nz hz2) (by decide) (by decide) rfl
  rw [if_pos c7] at h
  refine Gk_iload_n (i := 2) (x := x2) B d_Mo_mapper_10 rfl rfl ?_
  refine Gk_if_eq (tgt := 28) B d_Mo_mapper_11 rfl (fun c11 => ?_) (fun c11 => ?_)
  · rw [if_pos c11] at h
    exact sn_Mo_mapper_28 B hr h
  rw [if_neg c11] at h
  refine Gk_iload_n (i := 2) (x := x2) B d_Mo_mapper_14 rfl rfl ?_
  refine Gk_bipush (v := 100) B d_Mo_mapper_15 (by decide) ?_
  refine Gk_sipush (v := 599) B d_Mo_mapper_17 (by decide) ?_
  obtain ⟨w20, h20, h⟩ := gk_bind h
  refine Gk_callS (As := [.int x2, .int 100, .int 599]) (rest := []) (st1 := [.int w20.1]) (k1 := 0) (n1 := 0) B gk_hG d_Mo_mapper_20 (sn_Mo_outside h20) tw_954 tw_952 tw_953 tw_48 nm_Mo_outside rfl (by decide) ⟨by decide, by decide⟩ ⟨by decide, by decide⟩ rfl rfl rfl rfl ?_
  refine Gk_if_eq (tgt := 28) B d_Mo_mapper_23 rfl (fun c23 => ?_) (fun c23 => ?_)
  · rw [if_pos c23] at h
    exact sn_Mo_mapper_28 B hr h
  rw [if_neg c23] at h
  refine Gk_iconst (v := 0) B d_Mo_mapper_26 (by decide) ?_
  obtain ⟨z, hz, h⟩ := gk_bind h
  obtain ⟨hz1, hz2⟩ := gk_z_eq hz
  cases h
  subst hz1
  exact Gk_iret B hr d_Mo_mapper_27 (gk_nz hz2) (by decide) (by decide) rfl
theorem sn_Mo_mapper {l : Launch} {Γ : gk_G} {a0 : Option Nat} {x1 : Int32} {x2 : Int32} {M : gk_M} {ρ : Int32 × gk_M} (h : fn_Mo_mapper a0 x1 x2 M = some ρ) : gk_Met l gk_Y Γ y_Mo_mapper (.code y_Mo_mapper c_Mo_mapper 3 (some .boolean) :: gk_Y.2.2.2) rm_Mo_mapper [va_rf a0, .int x1, .int x2] M (some (.int ρ.1)) ρ.2 :=
  gk_start (by decide) (by simp [lg_sl, gk_rc, gk_ic, gk_jc]) [some (va_rf a0), some (.int x1), some (.int x2)] (by simp [gk_as, lv_args, gk_rc, gk_ic, gk_jc]) (fun p e s m args below meth c B hr hin => sn_Mo_mapper_0 B hr h)
theorem d_Accepted_add_0 : decode c_Accepted_add 0 = .ok (.aload_n 0, 1) := by decide +kernel
theorem d_Accepted_add_1 : decode c_Accepted_add 1 = .ok (.getfield 9, 3) := by decide +kernel
theorem d_Accepted_add_4 : decode c_Accepted_add 4 = .ok (.aload_n 0, 1) := by decide +kernel
theorem d_Accepted_add_5 : decode c_Accepted_add 5 = .ok (.getfield 18, 3) := by decide +kernel
theorem d_Accepted_add_8 : decode c_Accepted_add 8 = .ok (.iload_n 1, 1) := by decide +kernel
theorem d_Accepted_add_9 : decode c_Accepted_add 9 = .ok (.iastore, 1) := by decide +kernel
theorem d_Accepted_add_10 : decode c_Accepted_add 10 = .ok (.aload_n 0, 1) := by decide +kernel
theorem d_Accepted_add_11 : decode c_Accepted_add 11 = .ok (.getfield 15, 3) := by decide +kernel
theorem d_Accepted_add_14 : decode c_Accepted_add 14 = .ok (.aload_n 0, 1) := by decide +kernel
theorem d_Accepted_add_15 : decode c_Accepted_add 15 = .ok (.getfield 18, 3) := by decide +kernel
theorem d_Accepted_add_18 : decode c_Accepted_add 18 = .ok (.iload_n 2, 1) := by decide +kernel
theorem d_Accepted_add_19 : decode c_Accepted_add 19 = .ok (.iastore, 1) := by decide +kernel
theorem d_Accepted_add_20 : decode c_Accepted_add 20 = .ok (.aload_n 0, 1) := by decide +kernel
theorem d_Accepted_add_21 : decode c_Accepted_add 21 = .ok (.dup, 1) := by decide +kernel
theorem d_Accepted_add_22 : decode c_Accepted_add 22 = .ok (.getfield 18, 3) := by decide +kernel
theorem d_Accepted_add_25 : decode c_Accepted_add 25 = .ok (.iconst 1, 1) := by decide +kernel
theorem d_Accepted_add_26 : decode c_Accepted_add 26 = .ok (.iadd, 1) := by decide +kernel
theorem d_Accepted_add_27 : decode c_Accepted_add 27 = .ok (.putfield 18, 3) := by decide +kernel
theorem d_Accepted_add_30 : decode c_Accepted_add 30 = .ok (.return_, 1) := by decide +kernel
set_option maxHeartbeats 4000000 in
set_option maxRecDepth 100000 in
theorem sn_Accepted_add_0 {l : Launch} {Γ : gk_G} {p : Program} {e : Env} {s : State} {m : MethodId} {args : Array Value} {below : List Frame} {meth : Method} {c : Code} (B : gk_B p s m args meth c gk_Y Γ c_Accepted_add 3 "StageDispatcher$Accepted") (hr : meth.sig.returnType = none) {ρ : gk_M}   {a0 : Option Nat} {x1 : Int32} {x2 : Int32} {M : gk_M} (h : fn_Accepted_add  a0 x1 x2 M = some ρ) : Gk p l e rm_Accepted_add s m args below meth c gk_Y Γ 3 (MQ below (gk_Q gk_Y Γ none ρ) args s rm_Accepted_add.cells rm_Accepted_add.slots (fun q => Γ.2.2 ≤ q)) 0 0 M 0 [some (va_rf a0), some (.int x1), some (.int x2)] [] := by
  unfold fn_Accepted_add at h
  refine Gk_aload_n (i := 0) (r := a0) B d_Accepted_add_0 rfl rfl ?_
  obtain ⟨v1, h1, h⟩ := gk_bind h
  refine Gk_getR (j := 0) B d_Accepted_add_1 in_Accepted cl_Accepted (by decide) tw_158 rfl h1 ?_
  refine Gk_aload_n (i := 0) (r := a0) B d_Accepted_add_4 rfl rfl ?_
  obtain ⟨v5, h5, h⟩ := gk_bind h
  refine Gk_getI (j := 2) B d_Accepted_add_5 in_Accepted cl_Accepted (by decide) tw_161 rfl h5 ?_
  refine Gk_iload_n (i := 1) (x := x1) B d_Accepted_add_8 rfl rfl ?_
  obtain ⟨M9, h9, h⟩ := gk_bind h
  refine Gk_iastore B d_Accepted_add_9 ty_0 h9 ?_
  refine Gk_aload_n (i := 0) (r := a0) B d_Accepted_add_10 rfl rfl ?_
  obtain ⟨v11, h11, h⟩ := gk_bind h
  refine Gk_getR (j := 1) B d_Accepted_add_11 in_Accepted cl_Accepted (by decide) tw_160 rfl h11 ?_
  refine Gk_aload_n (i := 0) (r := a0) B d_Accepted_add_14 rfl rfl ?_
  obtain ⟨v15, h15, h⟩ := gk_bind h
  refine Gk_getI (j := 2) B d_Accepted_add_15 in_Accepted cl_Accepted (by decide) tw_161 rfl h15 ?_
  refine Gk_iload_n (i := 2) (x := x2) B d_Accepted_add_18 rfl rfl ?_
  obtain ⟨M19, h19, h⟩ := gk_bind h
  refine Gk_iastore B d_Accepted_add_19 ty_0 h19 ?_
  refine Gk_aload_n (i := 0) (r := a0) B d_Accepted_add_20 rfl rfl ?_
  refine Gk_dup B d_Accepted_add_21 (gk_rc _) ?_
  obtain ⟨v22, h22, h⟩ := gk_bind h
  refine Gk_getI (j := 2) B d_Accepted_add_22 in_Accepted cl_Accepted (by decide) tw_161 rfl h22 ?_
  refine Gk_iconst (v := 1) B d_Accepted_add_25 (by decide) ?_
  refine Gk_iadd B d_Accepted_add_26 ?_
  obtain ⟨M27, h27, h⟩ := gk_bind h
  refine Gk_put (j := 2) (ty := .int) B d_Accepted_add_27 in_Accepted t_Accepted t_Accepted_ok n_Accepted cl_Accepted (by decide) tw_161 rfl rfl rfl rfl rfl h27 ?_
  cases h
  exact Gk_vret B hr d_Accepted_add_30 (by decide) (by decide) rfl
theorem sn_Accepted_add {l : Launch} {Γ : gk_G} {a0 : Option Nat} {x1 : Int32} {x2 : Int32} {M : gk_M} {ρ : gk_M} (h : fn_Accepted_add a0 x1 x2 M = some ρ) : gk_Met l gk_Y Γ y_Accepted_add (.code y_Accepted_add c_Accepted_add 3 none :: gk_Y.2.2.2) rm_Accepted_add [va_rf a0, .int x1, .int x2] M none ρ :=
  gk_start (by decide) (by simp [lg_sl, gk_rc, gk_ic, gk_jc]) [some (va_rf a0), some (.int x1), some (.int x2)] (by simp [gk_as, lv_args, gk_rc, gk_ic, gk_jc]) (fun p e s m args below meth c B hr hin => sn_Accepted_add_0 B hr h)
theorem d_SD_accept_0 : decode c_SD_accept 0 = .ok (.aload_n 0, 1) := by decide +kernel
theorem d_SD_accept_1 : decode c_SD_accept 1 = .ok (.getfield 33, 3) := by decide +kernel
theorem d_SD_accept_4 : decode c_SD_accept 4 = .ok (.getfield 151, 3) := by decide +kernel
theorem d_SD_accept_7 : decode c_SD_accept 7 = .ok (.iconst 4, 1) := by decide +kernel
theorem d_SD_accept_8 : decode c_SD_accept 8 = .ok (.if_icmp .ge 25, 3) := by decide +kernel
theorem d_SD_accept_11 : decode c_SD_accept 11 = .ok (.iload_n 1, 1) := by decide +kernel
theorem d_SD_accept_12 : decode c_SD_accept 12 = .ok (.invokestatic 92, 3) := by decide +kernel
theorem d_SD_accept_15 : decode c_SD_accept 15 = .ok (.ifCond .eq 18, 3) := by decide +kernel
theorem d_SD_accept_18 : decode c_SD_accept 18 = .ok (.iload_n 2, 1) := by decide +kernel
theorem d_SD_accept_19 : decode c_SD_accept 19 = .ok (.iconst 0, 1) := by decide +kernel
theorem d_SD_accept_20 : decode c_SD_accept 20 = .ok (.sipush 1000, 3) := by decide +kernel
theorem d_SD_accept_23 : decode c_SD_accept 23 = .ok (.invokestatic 95, 3) := by decide +kernel
theorem d_SD_accept_26 : decode c_SD_accept 26 = .ok (.ifCond .eq 7, 3) := by decide +kernel
theorem d_SD_accept_29 : decode c_SD_accept 29 = .ok (.iconst 1, 1) := by decide +kernel
theorem d_SD_accept_30 : decode c_SD_accept 30 = .ok (.goto 4, 3) := by decide +kernel
theorem d_SD_accept_33 : decode c_SD_accept 33 = .ok (.iconst 0, 1) := by decide +kernel
theorem d_SD_accept_34 : decode c_SD_accept 34 = .ok (.istore_n 3, 1) := by decide +kernel
theorem d_SD_accept_35 : decode c_SD_accept 35 = .ok (.iload_n 3, 1) := by decide +kernel
theorem d_SD_accept_36 : decode c_SD_accept 36 = .ok (.ifCond .eq 12, 3) := by decide +kernel
theorem d_SD_accept_39 : decode c_SD_accept 39 = .ok (.aload_n 0, 1) := by decide +kernel
theorem d_SD_accept_40 : decode c_SD_accept 40 = .ok (.getfield 33, 3) := by decide +kernel
theorem d_SD_accept_43 : decode c_SD_accept 43 = .ok (.iload_n 1, 1) := by decide +kernel
theorem d_SD_accept_44 : decode c_SD_accept 44 = .ok (.iload_n 2, 1) := by decide +kernel
theorem d_SD_accept_45 : decode c_SD_accept 45 = .ok (.invokevirtual 152, 3) := by decide +kernel
theorem d_SD_accept_48 : decode c_SD_accept 48 = .ok (.iload_n 3, 1) := by decide +kernel
theorem d_SD_accept_49 : decode c_SD_accept 49 = .ok (.ireturn, 1) := by decide +kernel
set_option maxHeartbeats 4000000 in
set_option maxRecDepth 100000 in
theorem sn_SD_accept_48 {l : Launch} {Γ : gk_G} {p : Program} {e : Env} {s : State} {m : MethodId} {args : Array Value} {below : List Frame} {meth : Method} {c : Code} (B : gk_B p s m args meth c gk_Y Γ c_SD_accept 4 "StageDispatcher") (hr : meth.sig.returnType = (some .boolean)) {ρ : Int32 × gk_M}   {x3 : Int32} {M : gk_M} (h : fn_SD_accept_48  x3 M = some ρ) : Gk p l e rm_SD_accept s m args below meth c gk_Y Γ 4 (MQ below (gk_Q gk_Y Γ (some (.int ρ.1)) ρ.2) args s rm_SD_accept.cells rm_SD_accept.slots (fun q => Γ.2.2 ≤ q)) 0 0 M 48 [none, none, none, some (.int x3)] [] := by
  unfold fn_SD_accept_48 at h
  refine Gk_iload_n (i := 3) (x := x3) B d_SD_accept_48 rfl rfl ?_
  obtain ⟨z, hz, h⟩ := gk_bind h
  obtain ⟨hz1, hz2⟩ := gk_z_eq hz
  cases h
  subst hz1
  exact Gk_iret B hr d_SD_accept_49 (gk_nz hz2) (by decide) (by decide) rfl
set_option maxHeartbeats 4000000 in
set_option maxRecDepth 100000 in
theorem sn_SD_accept_34 {l : Launch} {Γ : gk_G} {p : Program} {e : Env} {s : State} {m : MethodId} {args : Array Value} {below : List Frame} {meth : Method} {c : Code} (B : gk_B p s m args meth c gk_Y Γ c_SD_accept 4 "StageDispatcher") (hr : meth.sig.returnType = (some .boolean)) {ρ : Int32 × gk_M}   {a0 : Option Nat} {x1 : Int32} {x2 : Int32} {s0 : Int32} {M : gk_M} (h : fn_SD_accept_34  a0 x1 x2 s0 M = some ρ) : Gk p l e rm_SD_accept s m args below meth c gk_Y Γ 4 (MQ below (gk_Q gk_Y Γ (some (.int ρ.1)) ρ.2) args s rm_SD_accept.cells rm_SD_accept.slots (fun q => Γ.2.2 ≤ q)) 0 0 M 34 [some (va_rf a0), some (.int x1), some (.int x2), none] [.int s0] := by
  unfold fn_SD_accept_34 at h
  refine Gk_istore_n (i := 3) (L' := [some (va_rf a0), some (.int x1), some (.int x2), some (.int s0)]) B d_SD_accept_34 rfl (by decide) (gk_c1_i rfl) rfl ?_
  refine Gk_iload_n (i := 3) (x := s0) B d_SD_accept_35 rfl rfl ?_
  refine Gk_if_eq (tgt := 48) B d_SD_accept_36 rfl (fun c36 => ?_) (fun c36 => ?_)
  · rw [if_pos c36] at h
    refine Gk_weak [false, false, false, true] (L' := [none, none, none, some (.int s0)]) rfl ?_
    exact sn_SD_accept_48 B hr h
  rw [if_neg c36] at h
  refine Gk_aload_n (i := 0) (r := a0) B d_SD_accept_39 rfl rfl ?_
  obtain ⟨v40, h40, h⟩ := gk_bind h
  refine Gk_getR (j := 3) B d_SD_accept_40 in_SD cl_SD (by decide) tw_281 rfl h40 ?_
  refine Gk_iload_n (i := 1) (x := x1) B d_SD_accept_43 rfl rfl ?_
  refine Gk_iload_n (i := 2) (x := x2) B d_SD_accept_44 rfl rfl ?_
  obtain ⟨o45, g45, h⟩ := gk_bind h
  obtain ⟨w45, h45, h⟩ := gk_bind h
  refine Gk_callV (As := [.int x1, .int x2]) (rest := []) (st1 := []) (k1 := 0) (n1 := 0) B gk_hG d_SD_accept_45 (sn_Accepted_add h45) g45 cl_Accepted tw_519 tw_516 tw_517 tw_518 tw_44 nm_Accepted_add rfl (by decide) ⟨by decide, by decide⟩ ⟨by decide, by decide⟩ rfl rfl rfl rfl ?_
  refine Gk_weak [false, false, false, true] (L' := [none, none, none, some (.int s0)]) rfl ?_
  exact sn_SD_accept_48 B hr h
set_option maxHeartbeats 4000000 in
set_option maxRecDepth 100000 in
theorem sn_SD_accept_33 {l : Launch} {Γ : gk_G} {p : Program} {e : Env} {s : State} {m : MethodId} {args : Array Value} {below : List Frame} {meth : Method} {c : Code} (B : gk_B p s m args meth c gk_Y Γ c_SD_accept 4 "StageDispatcher") (hr : meth.sig.returnType = (some .boolean)) {ρ : Int32 × gk_M}   {a0 : Option Nat} {x1 : Int32} {x2 : Int32} {M : gk_M} (h : fn_SD_accept_33  a0 x1 x2 M = some ρ) : Gk p l e rm_SD_accept s m args below meth c gk_Y Γ 4 (MQ below (gk_Q gk_Y Γ (some (.int ρ.1)) ρ.2) args s rm_SD_accept.cells rm_SD_accept.slots (fun q => Γ.2.2 ≤ q)) 0 0 M 33 [some (va_rf a0), some (.int x1), some (.int x2), none] [] := by
  unfold fn_SD_accept_33 at h
  refine Gk_iconst (v := 0) B d_SD_accept_33 (by decide) ?_
  exact sn_SD_accept_34 B hr h
set_option maxHeartbeats 4000000 in
set_option maxRecDepth 100000 in
theorem sn_SD_accept_0 {l : Launch} {Γ : gk_G} {p : Program} {e : Env} {s : State} {m : MethodId} {args : Array Value} {below : List Frame} {meth : Method} {c : Code} (B : gk_B p s m args meth c gk_Y Γ c_SD_accept 4 "StageDispatcher") (hr : meth.sig.returnType = (some .boolean)) {ρ : Int32 × gk_M}   {a0 : Option Nat} {x1 : Int32} {x2 : Int32} {M : gk_M} (h : fn_SD_accept  a0 x1 x2 M = some ρ) : Gk p l e rm_SD_accept s m args below meth c gk_Y Γ 4 (MQ below (gk_Q gk_Y Γ (some (.int ρ.1)) ρ.2) args s rm_SD_accept.cells rm_SD_accept.slots (fun q => Γ.2.2 ≤ q)) 0 0 M 0 [some (va_rf a0), some (.int x1), some (.int x2), none] [] := by
  unfold fn_SD_accept at h
  refine Gk_aload_n (i := 0) (r := a0) B d_SD_accept_0 rfl rfl ?_
  obtain ⟨v1, h1, h⟩ := gk_bind h
  refine Gk_getR (j := 3) B d_SD_accept_1 in_SD cl_SD (by decide) tw_281 rfl h1 ?_
  obtain ⟨v4, h4, h⟩ := gk_bind h
  refine Gk_getI (j := 2) B d_SD_accept_4 in_Accepted cl_Accepted (by decide) tw_162 rfl h4 ?_
  refine Gk_iconst (v := 4) B d_SD_accept_7 (by decide) ?_
  refine Gk_icmp_ge (tgt := 33) B d_SD_accept_8 rfl (fun c8 => ?_) (fun c8 => ?_)
  · rw [if_pos c8] at h
    exact sn_SD_accept_33 B hr h
  rw [if_neg c8] at h
  refine Gk_iload_n (i := 1) (x := x1) B d_SD_accept_11 rfl rfl ?_
  obtain ⟨w12, h12, h⟩ := gk_bind h
  refine Gk_callS (As := [.int x1]) (rest := []) (st1 := [.int w12.1]) (k1 := 0) (n1 := 0) B gk_hG d_SD_accept_12 (sn_SD_isType h12) tw_380 tw_378 tw_379 tw_40 nm_SD_isType rfl (by decide) ⟨by decide, by decide⟩ ⟨by decide, by decide⟩ rfl rfl rfl rfl ?_
  refine Gk_if_eq (tgt := 33) B d_SD_accept_15 rfl (fun c15 => ?_) (fun c15 => ?_)
  · rw [if_pos c15] at h
    exact sn_SD_accept_33 B hr h
  rw [if_neg c15] at h
  refine Gk_iload_n (i := 2) (x := x2) B d_SD_accept_18 rfl rfl ?_
  refine Gk_iconst (v := 0) B d_SD_accept_19 (by decide) ?_
  refine Gk_sipush (v := 1000) B d_SD_accept_20 (by decide) ?_
  obtain ⟨w23, h23, h⟩ := gk_bind h
  refine Gk_callS (As := [.int x2, .int 0, .int 1000]) (rest := []) (st1 := [.int w23.1]) (k1 := 0) (n1 := 0) B gk_hG d_SD_accept_23 (sn_SD_isWithin h23) tw_373 tw_377 tw_372 tw_40 nm_SD_isWithin rfl (by decide) ⟨by decide, by decide⟩ ⟨by decide, by decide⟩ rfl rfl rfl rfl ?_
  refine Gk_if_eq (tgt := 33) B d_SD_accept_26 rfl (fun c26 => ?_) (fun c26 => ?_)
  · rw [if_pos c26] at h
    exact sn_SD_accept_33 B hr h
  rw [if_neg c26] at h
  refine Gk_iconst (v := 1) B d_SD_accept_29 (by decide) ?_
  refine Gk_goto (tgt := 34) B d_SD_accept_30 rfl ?_
  exact sn_SD_accept_34 B hr h
theorem sn_SD_accept {l : Launch} {Γ : gk_G} {a0 : Option Nat} {x1 : Int32} {x2 : Int32} {M : gk_M} {ρ : Int32 × gk_M} (h : fn_SD_accept a0 x1 x2 M = some ρ) : gk_Met l gk_Y Γ y_SD_accept (.code y_SD_accept c_SD_accept 4 (some .boolean) :: gk_Y.2.2.2) rm_SD_accept [va_rf a0, .int x1, .int x2] M (some (.int ρ.1)) ρ.2 :=
  gk_start (by decide) (by simp [lg_sl, gk_rc, gk_ic, gk_jc]) [some (va_rf a0), some (.int x1), some (.int x2), none] (by simp [gk_as, lv_args, gk_rc, gk_ic, gk_jc]) (fun p e s m args below meth c B hr hin => sn_SD_accept_0 B hr h)
theorem d_Mo_accept_0 : decode c_Mo_accept 0 = .ok (.iload_n 1, 1) := by decide +kernel
theorem d_Mo_accept_1 : decode c_Mo_accept 1 = .ok (.invokestatic 171, 3) := by decide +kernel
theorem d_Mo_accept_4 : decode c_Mo_accept 4 = .ok (.ifCond .eq 22, 3) := by decide +kernel
theorem d_Mo_accept_7 : decode c_Mo_accept 7 = .ok (.iload_n 2, 1) := by decide +kernel
theorem d_Mo_accept_8 : decode c_Mo_accept 8 = .ok (.iconst 0, 1) := by decide +kernel
theorem d_Mo_accept_9 : decode c_Mo_accept 9 = .ok (.sipush 1000, 3) := by decide +kernel
theorem d_Mo_accept_12 : decode c_Mo_accept 12 = .ok (.invokestatic 167, 3) := by decide +kernel
theorem d_Mo_accept_15 : decode c_Mo_accept 15 = .ok (.ifCond .ne 11, 3) := by decide +kernel
theorem d_Mo_accept_18 : decode c_Mo_accept 18 = .ok (.aload_n 0, 1) := by decide +kernel
theorem d_Mo_accept_19 : decode c_Mo_accept 19 = .ok (.getfield 184, 3) := by decide +kernel
theorem d_Mo_accept_22 : decode c_Mo_accept 22 = .ok (.iconst 4, 1) := by decide +kernel
theorem d_Mo_accept_23 : decode c_Mo_accept 23 = .ok (.if_icmp .lt 5, 3) := by decide +kernel
theorem d_Mo_accept_26 : decode c_Mo_accept 26 = .ok (.iconst 0, 1) := by decide +kernel
theorem d_Mo_accept_27 : decode c_Mo_accept 27 = .ok (.ireturn, 1) := by decide +kernel
theorem d_Mo_accept_28 : decode c_Mo_accept 28 = .ok (.aload_n 0, 1) := by decide +kernel
theorem d_Mo_accept_29 : decode c_Mo_accept 29 = .ok (.getfield 72, 3) := by decide +kernel
theorem d_Mo_accept_32 : decode c_Mo_accept 32 = .ok (.aload_n 0, 1) := by decide +kernel
theorem d_Mo_accept_33 : decode c_Mo_accept 33 = .ok (.getfield 184, 3) := by decide +kernel
theorem d_Mo_accept_36 : decode c_Mo_accept 36 = .ok (.iload_n 1, 1) := by decide +kernel
theorem d_Mo_accept_37 : decode c_Mo_accept 37 = .ok (.iastore, 1) := by decide +kernel
theorem d_Mo_accept_38 : decode c_Mo_accept 38 = .ok (.aload_n 0, 1) := by decide +kernel
theorem d_Mo_accept_39 : decode c_Mo_accept 39 = .ok (.getfield 75, 3) := by decide +kernel
theorem d_Mo_accept_42 : decode c_Mo_accept 42 = .ok (.aload_n 0, 1) := by decide +kernel
theorem d_Mo_accept_43 : decode c_Mo_accept 43 = .ok (.getfield 184, 3) := by decide +kernel
theorem d_Mo_accept_46 : decode c_Mo_accept 46 = .ok (.iload_n 2, 1) := by decide +kernel
theorem d_Mo_accept_47 : decode c_Mo_accept 47 = .ok (.iastore, 1) := by decide +kernel
theorem d_Mo_accept_48 : decode c_Mo_accept 48 = .ok (.aload_n 0, 1) := by decide +kernel
theorem d_Mo_accept_49 : decode c_Mo_accept 49 = .ok (.dup, 1) := by decide +kernel
theorem d_Mo_accept_50 : decode c_Mo_accept 50 = .ok (.getfield 184, 3) := by decide +kernel
theorem d_Mo_accept_53 : decode c_Mo_accept 53 = .ok (.iconst 1, 1) := by decide +kernel
theorem d_Mo_accept_54 : decode c_Mo_accept 54 = .ok (.iadd, 1) := by decide +kernel
theorem d_Mo_accept_55 : decode c_Mo_accept 55 = .ok (.putfield 184, 3) := by decide +kernel
theorem d_Mo_accept_58 : decode c_Mo_accept 58 = .ok (.iconst 1, 1) := by decide +kernel
theorem d_Mo_accept_59 : decode c_Mo_accept 59 = .ok (.ireturn, 1) := by decide +kernel
set_option maxHeartbeats 4000000 in
set_option maxRecDepth 100000 in
theorem sn_Mo_accept_0 {l : Launch} {Γ : gk_G} {p : Program} {e : Env} {s : State} {m : MethodId} {args : Array Value} {below : List Frame} {meth : Method} {c : Code} (B : gk_B p s m args meth c gk_Y Γ c_Mo_accept 3 "StageDispatcherModel") (hr : meth.sig.returnType = (some .boolean)) {ρ : Int32 × gk_M}   {a0 : Option Nat} {x1 : Int32} {x2 : Int32} {M : gk_M} (h : fn_Mo_accept  a0 x1 x2 M = some ρ) : Gk p l e rm_Mo_accept s m args below meth c gk_Y Γ 3 (MQ below (gk_Q gk_Y Γ (some (.int ρ.1)) ρ.2) args s rm_Mo_accept.cells rm_Mo_accept.slots (fun q => Γ.2.2 ≤ q)) 0 0 M 0 [some (va_rf a0), some (.int x1), some (.int x2)] [] := by
  unfold fn_Mo_accept at h
  refine Gk_iload_n (i := 1) (x := x1) B d_Mo_accept_0 rfl rfl ?_
  obtain ⟨w1, h1, h⟩ := gk_bind h
  refine Gk_callS (As := [.int x1]) (rest := []) (st1 := [.int w1.1]) (k1 := 0) (n1 := 0) B gk_hG d_Mo_accept_1 (sn_Mo_isType h1) tw_957 tw_955 tw_956 tw_48 nm_Mo_isType rfl (by decide) ⟨by decide, by decide⟩ ⟨by decide, by decide⟩ rfl rfl rfl rfl ?_
  refine Gk_if_eq (tgt := 26) B d_Mo_accept_4 rfl (fun c4 => ?_) (fun c4 => ?_)
  · rw [if_pos c4] at h
    refine Gk_iconst (v := 0) B d_Mo_accept_26 (by decide) ?_
    obtain ⟨z, hz, h⟩ := gk_bind h
    obtain ⟨hz1, hz2⟩ := gk_z_eq hz
    cases h
    subst hz1
    exact Gk_iret B hr d_Mo_accept_27 (gk_nz hz2) (by decide) (by decide) rfl
  rw [if_neg c4] at h
  refine Gk_iload_n (i := 2) (x := x2) B d_Mo_accept_7 rfl rfl ?_
  refine Gk_iconst (v := 0) B d_Mo_accept_8 (by decide) ?_
  refine Gk_sipush (v := 1000) B d_Mo_accept_9 (by decide) ?_
  obtain ⟨w12, h12, h⟩ := gk_bind h
  refine Gk_callS (As := [.int x2, .int 0, .int 1000]) (rest := []) (st1 := [.int w12.1]) (k1 := 0) (n1 := 0) B gk_hG d_Mo_accept_12 (sn_Mo_outside h12) tw_954 tw_952 tw_953 tw_48 nm_Mo_outside rfl (by decide) ⟨by decide, by decide⟩ ⟨by decide, by decide⟩ rfl rfl rfl rfl ?_
  refine Gk_if_ne (tgt := 26) B d_Mo_accept_15 rfl (fun c15 => ?_) (fun c15 => ?_)
  · rw [if_neg c15] at h
    refine Gk_iconst (v := 0) B d_Mo_accept_26 (by decide) ?_
    obtain ⟨z, hz, h⟩ := gk_bind h
    obtain ⟨hz1, hz2⟩ := gk_z_eq hz
    cases h
    subst hz1
    exact Gk_iret B hr d_Mo_accept_27 (gk_nz hz2) (by decide) (by decide) rfl
  rw [if_pos c15] at h
  refine Gk_aload_n (i := 0) (r := a0) B d_Mo_accept_18 rfl rfl ?_
  obtain ⟨v19, h19, h⟩ := gk_bind h
  refine Gk_getI (j := 25) B d_Mo_accept_19 in_Mo cl_Mo (by decide) tw_780 rfl h19 ?_
  refine Gk_iconst (v := 4) B d_Mo_accept_22 (by decide) ?_
  refine Gk_icmp_lt (tgt := 28) B d_Mo_accept_23 rfl (fun c23 => ?_) (fun c23 => ?_)
  · rw [if_pos c23] at h
    refine Gk_aload_n (i := 0) (r := a0) B d_Mo_accept_28 rfl rfl ?_
    obtain ⟨v29, h29, h⟩ := gk_bind h
    refine Gk_getR (j := 26) B d_Mo_accept_29 in_Mo cl_Mo (by decide) tw_781 rfl h29 ?_
    refine Gk_aload_n (i := 0) (r := a0) B d_Mo_accept_32 rfl rfl ?_
    obtain ⟨v33, h33, h⟩ := gk_bind h
    refine Gk_getI (j := 25) B d_Mo_accept_33 in_Mo cl_Mo (by decide) tw_780 rfl h33 ?_
    refine Gk_iload_n (i := 1) (x := x1) B d_Mo_accept_36 rfl rfl ?_
    obtain ⟨M37, h37, h⟩ := gk_bind h
    refine Gk_iastore B d_Mo_accept_37 ty_0 h37 ?_
    refine Gk_aload_n (i := 0) (r := a0) B d_Mo_accept_38 rfl rfl ?_
    obtain ⟨v39, h39, h⟩ := gk_bind h
    refine Gk_getR (j := 27) B d_Mo_accept_39 in_Mo cl_Mo (by decide) tw_782 rfl h39 ?_
    refine Gk_aload_n (i := 0) (r := a0) B d_Mo_accept_42 rfl rfl ?_
    obtain ⟨v43, h43, h⟩ := gk_bind h
    refine Gk_getI (j := 25) B d_Mo_accept_43 in_Mo cl_Mo (by decide) tw_780 rfl h43 ?_
    refine Gk_iload_n (i := 2) (x := x2) B d_Mo_accept_46 rfl rfl ?_
    obtain ⟨M47, h47, h⟩ := gk_bind h
    refine Gk_iastore B d_Mo_accept_47 ty_0 h47 ?_
    refine Gk_aload_n (i := 0) (r := a0) B d_Mo_accept_48 rfl rfl ?_
    refine Gk_dup B d_Mo_accept_49 (gk_rc _) ?_
    obtain ⟨v50, h50, h⟩ := gk_bind h
    refine Gk_getI (j := 25) B d_Mo_accept_50 in_Mo cl_Mo (by decide) tw_780 rfl h50 ?_
    refine Gk_iconst (v := 1) B d_Mo_accept_53 (by decide) ?_
    refine Gk_iadd B d_Mo_accept_54 ?_
    obtain ⟨M55, h55, h⟩ := gk_bind h
    refine Gk_put (j := 25) (ty := .int) B d_Mo_accept_55 in_Mo t_Mo t_Mo_ok n_Mo cl_Mo (by decide) tw_780 rfl rfl rfl rfl rfl h55 ?_
    refine Gk_iconst (v := 1) B d_Mo_accept_58 (by decide) ?_
    obtain ⟨z, hz, h⟩ := gk_bind h
    obtain ⟨hz1, hz2⟩ := gk_z_eq hz
    cases h
    subst hz1
    exact Gk_iret B hr d_Mo_accept_59 (gk_nz hz2) (by decide) (by decide) rfl
  rw [if_neg c23] at h
  refine Gk_iconst (v := 0) B d_Mo_accept_26 (by decide) ?_
  obtain ⟨z, hz, h⟩ := gk_bind h
  obtain ⟨hz1, hz2⟩ := gk_z_eq hz
  cases h
  subst hz1
  exact Gk_iret B hr d_Mo_accept_27 (gk_nz hz2) (by decide) (by decide) rfl
theorem sn_Mo_accept {l : Launch} {Γ : gk_G} {a0 : Option Nat} {x1 : Int32} {x2 : Int32} {M : gk_M} {ρ : Int32 × gk_M} (h : fn_Mo_accept a0 x1 x2 M = some ρ) : gk_Met l gk_Y Γ y_Mo_accept (.code y_Mo_accept c_Mo_accept 3 (some .boolean) :: gk_Y.2.2.2) rm_Mo_accept [va_rf a0, .int x1, .int x2] M (some (.int ρ.1)) ρ.2 :=
  gk_start (by decide) (by simp [lg_sl, gk_rc, gk_ic, gk_jc]) [some (va_rf a0), some (.int x1), some (.int x2)] (by simp [gk_as, lv_args, gk_rc, gk_ic, gk_jc]) (fun p e s m args below meth c B hr hin => sn_Mo_accept_0 B hr h)
theorem d_Text_isPath_0 : decode c_Text_isPath 0 = .ok (.iconst 0, 1) := by decide +kernel
theorem d_Text_isPath_1 : decode c_Text_isPath 1 = .ok (.istore_n 1, 1) := by decide +kernel
theorem d_Text_isPath_2 : decode c_Text_isPath 2 = .ok (.iload_n 1, 1) := by decide +kernel
theorem d_Text_isPath_3 : decode c_Text_isPath 3 = .ok (.aload_n 0, 1) := by decide +kernel
theorem d_Text_isPath_4 : decode c_Text_isPath 4 = .ok (.getfield 15, 3) := by decide +kernel
theorem d_Text_isPath_7 : decode c_Text_isPath 7 = .ok (.if_icmp .ge 33, 3) := by decide +kernel
theorem d_Text_isPath_10 : decode c_Text_isPath 10 = .ok (.aload_n 0, 1) := by decide +kernel
theorem d_Text_isPath_11 : decode c_Text_isPath 11 = .ok (.getfield 9, 3) := by decide +kernel
theorem d_Text_isPath_14 : decode c_Text_isPath 14 = .ok (.iload_n 1, 1) := by decide +kernel
theorem d_Text_isPath_15 : decode c_Text_isPath 15 = .ok (.caload, 1) := by decide +kernel
theorem d_Text_isPath_16 : decode c_Text_isPath 16 = .ok (.bipush 123, 2) := by decide +kernel
theorem d_Text_isPath_18 : decode c_Text_isPath 18 = .ok (.if_icmp .eq 14, 3) := by decide +kernel
theorem d_Text_isPath_21 : decode c_Text_isPath 21 = .ok (.aload_n 0, 1) := by decide +kernel
theorem d_Text_isPath_22 : decode c_Text_isPath 22 = .ok (.getfield 9, 3) := by decide +kernel
theorem d_Text_isPath_25 : decode c_Text_isPath 25 = .ok (.iload_n 1, 1) := by decide +kernel
theorem d_Text_isPath_26 : decode c_Text_isPath 26 = .ok (.caload, 1) := by decide +kernel
theorem d_Text_isPath_27 : decode c_Text_isPath 27 = .ok (.bipush 125, 2) := by decide +kernel
theorem d_Text_isPath_29 : decode c_Text_isPath 29 = .ok (.if_icmp .ne 5, 3) := by decide +kernel
theorem d_Text_isPath_32 : decode c_Text_isPath 32 = .ok (.iconst 0, 1) := by decide +kernel
theorem d_Text_isPath_33 : decode c_Text_isPath 33 = .ok (.ireturn, 1) := by decide +kernel
theorem d_Text_isPath_34 : decode c_Text_isPath 34 = .ok (.iinc 1 1, 3) := by decide +kernel
theorem d_Text_isPath_37 : decode c_Text_isPath 37 = .ok (.goto (-35), 3) := by decide +kernel
theorem d_Text_isPath_40 : decode c_Text_isPath 40 = .ok (.aload_n 0, 1) := by decide +kernel
theorem d_Text_isPath_41 : decode c_Text_isPath 41 = .ok (.iconst 0, 1) := by decide +kernel
theorem d_Text_isPath_42 : decode c_Text_isPath 42 = .ok (.bipush 47, 2) := by decide +kernel
theorem d_Text_isPath_44 : decode c_Text_isPath 44 = .ok (.invokevirtual 25, 3) := by decide +kernel
theorem d_Text_isPath_47 : decode c_Text_isPath 47 = .ok (.ireturn, 1) := by decide +kernel
set_option maxHeartbeats 4000000 in
set_option maxRecDepth 100000 in
theorem sn_Text_isPath_2_bd {l : Launch} {Γ : gk_G} {p : Program} {e : Env} {s : State} {m : MethodId} {args : Array Value} {below : List Frame} {meth : Method} {c : Code} (B : gk_B p s m args meth c gk_Y Γ c_Text_isPath 2 "StageDispatcher$Text") (hr : meth.sig.returnType = (some .boolean)) {ρ : Int32 × gk_M} {k2 : Option Nat → Int32 → gk_M → Option (Int32 × gk_M)} (H2 : ∀ (a0 : Option Nat) (x1 : Int32) (M : gk_M), k2 a0 x1 M = some ρ → Gk p l e rm_Text_isPath s m args below meth c gk_Y Γ 2 (MQ below (gk_Q gk_Y Γ (some (.int ρ.1)) ρ.2) args s rm_Text_isPath.cells rm_Text_isPath.slots (fun q => Γ.2.2 ≤ q)) 0 0 M 2 [some (va_rf a0), some (.int x1)] []) {a0 : Option Nat} {x1 : Int32} {M : gk_M} (h : fn_Text_isPath_2_bd k2 a0 x1 M = some ρ) : Gk p l e rm_Text_isPath s m args below meth c gk_Y Γ 2 (MQ below (gk_Q gk_Y Γ (some (.int ρ.1)) ρ.2) args s rm_Text_isPath.cells rm_Text_isPath.slots (fun q => Γ.2.2 ≤ q)) 0 0 M 2 [some (va_rf a0), some (.int x1)] [] := by
  unfold fn_Text_isPath_2_bd at h
  refine Gk_iload_n (i := 1) (x := x1) B d_Text_isPath_2 rfl rfl ?_
  refine Gk_aload_n (i := 0) (r := a0) B d_Text_isPath_3 rfl rfl ?_
  obtain ⟨v4, h4, h⟩ := gk_bind h
  refine Gk_getI (j := 1) B d_Text_isPath_4 in_Text cl_Text (by decide) tw_76 rfl h4 ?_
  refine Gk_icmp_ge (tgt := 40) B d_Text_isPath_7 rfl (fun c7 => ?_) (fun c7 => ?_)
  · rw [if_pos c7] at h
    refine Gk_aload_n (i := 0) (r := a0) B d_Text_isPath_40 rfl rfl ?_
    refine Gk_iconst (v := 0) B d_Text_isPath_41 (by decide) ?_
    refine Gk_bipush (v := 47) B d_Text_isPath_42 (by decide) ?_
    obtain ⟨o44, g44, h⟩ := gk_bind h
    obtain ⟨w44, h44, h⟩ := gk_bind h
    refine Gk_callV (As := [.int 0, .int 47]) (rest := []) (st1 := [.int w44.1]) (k1 := 0) (n1 := 0) B gk_hG d_Text_isPath_44 (sn_Text_has h44) g44 cl_Text tw_321 tw_528 tw_319 tw_320 tw_41 nm_Text_has rfl (by decide) ⟨by decide, by decide⟩ ⟨by decide, by decide⟩ rfl rfl rfl rfl ?_
    obtain ⟨z, hz, h⟩ := gk_bind h
    obtain ⟨hz1, hz2⟩ := gk_z_eq hz
    cases h
    subst hz1
    exact Gk_iret B hr d_Text_isPath_47 (gk_nz hz2) (by decide) (by decide) rfl
  rw [if_neg c7] at h
  refine Gk_aload_n (i := 0) (r := a0) B d_Text_isPath_10 rfl rfl ?_
  obtain ⟨v11, h11, h⟩ := gk_bind h
  refine Gk_getR (j := 0) B d_Text_isPath_11 in_Text cl_Text (by decide) tw_70 rfl h11 ?_
  refine Gk_iload_n (i := 1) (x := x1) B d_Text_isPath_14 rfl rfl ?_
  obtain ⟨v15, h15, h⟩ := gk_bind h
  refine Gk_caload B d_Text_isPath_15 ty_1 h15 ?_
  refine Gk_bipush (v := 123) B d_Text_isPath_16 (by decide) ?_
  refine Gk_icmp_eq (tgt := 32) B d_Text_isPath_18 rfl (fun c18 => ?_) (fun c18 => ?_)
  · rw [if_pos c18] at h
    refine Gk_iconst (v := 0) B d_Text_isPath_32 (by decide) ?_
    obtain ⟨z, hz, h⟩ := gk_bind h
    obtain ⟨hz1, hz2⟩ := gk_z_eq hz
    cases h
    subst hz1
    exact Gk_iret B hr d_Text_isPath_33 (gk_nz hz2) (by decide) (by decide) rfl
  rw [if_neg c18] at h
  refine Gk_aload_n (i := 0) (r := a0) B d_Text_isPath_21 rfl rfl ?_
  obtain ⟨v22, h22, h⟩ := gk_bind h
  refine Gk_getR (j := 0) B d_Text_isPath_22 in_Text cl_Text (by decide) tw_70 rfl h22 ?_
  refine Gk_iload_n (i := 1) (x := x1) B d_Text_isPath_25 rfl rfl ?_
  obtain ⟨v26, h26, h⟩ := gk_bind h
  refine Gk_caload B d_Text_isPath_26 ty_1 h26 ?_
  refine Gk_bipush (v := 125) B d_Text_isPath_27 (by decide) ?_
  refine Gk_icmp_ne (tgt := 34) B d_Text_isPath_29 rfl (fun c29 => ?_) (fun c29 => ?_)
  · rw [if_neg c29] at h
    refine Gk_iinc (x := x1) (v := (x1 + 1)) (L' := [some (va_rf a0), some (.int (x1 + 1))]) B d_Text_isPath_34 rfl (congrArg (fun z => x1 + z) (by decide : Int32.ofInt 1 = 1)) (by decide) (gk_c1_r rfl) rfl ?_
    refine Gk_goto (tgt := 2) B d_Text_isPath_37 rfl ?_
    exact H2 a0 (x1 + 1) M h
  rw [if_pos c29] at h
  refine Gk_iconst (v := 0) B d_Text_isPath_32 (by decide) ?_
  obtain ⟨z, hz, h⟩ := gk_bind h
  obtain ⟨hz1, hz2⟩ := gk_z_eq hz
  cases h
  subst hz1
  exact Gk_iret B hr d_Text_isPath_33 (gk_nz hz2) (by decide) (by decide) rfl
set_option maxHeartbeats 4000000 in
set_option maxRecDepth 100000 in
theorem sn_Text_isPath_2 {l : Launch} {Γ : gk_G} {p : Program} {e : Env} {s : State} {m : MethodId} {args : Array Value} {below : List Frame} {meth : Method} {c : Code} (B : gk_B p s m args meth c gk_Y Γ c_Text_isPath 2 "StageDispatcher$Text") (hr : meth.sig.returnType = (some .boolean)) {ρ : Int32 × gk_M}   {a0 : Option Nat} {x1 : Int32} {M : gk_M} (h : fn_Text_isPath_2  a0 x1 M = some ρ) : Gk p l e rm_Text_isPath s m args below meth c gk_Y Γ 2 (MQ below (gk_Q gk_Y Γ (some (.int ρ.1)) ρ.2) args s rm_Text_isPath.cells rm_Text_isPath.slots (fun q => Γ.2.2 ≤ q)) 0 0 M 2 [some (va_rf a0), some (.int x1)] [] := by
  unfold fn_Text_isPath_2 at h
  exact gk_loop_sound (α := Option Nat × Int32 × gk_M) (P := fun a => Gk p l e rm_Text_isPath s m args below meth c gk_Y Γ 2 (MQ below (gk_Q gk_Y Γ (some (.int ρ.1)) ρ.2) args s rm_Text_isPath.cells rm_Text_isPath.slots (fun q => Γ.2.2 ≤ q)) 0 0 a.2.2 2 [some (va_rf a.1), some (.int a.2.1)] []) (fun kk a Hk hb => sn_Text_isPath_2_bd B hr (fun a0 x1 M hh => Hk (a0, x1, M) hh) hb) _ _ h
set_option maxHeartbeats 4000000 in
set_option maxRecDepth 100000 in
theorem sn_Text_isPath_0 {l : Launch} {Γ : gk_G} {p : Program} {e : Env} {s : State} {m : MethodId} {args : Array Value} {below : List Frame} {meth : Method} {c : Code} (B : gk_B p s m args meth c gk_Y Γ c_Text_isPath 2 "StageDispatcher$Text") (hr : meth.sig.returnType = (some .boolean)) {ρ : Int32 × gk_M}   {a0 : Option Nat} {M : gk_M} (h : fn_Text_isPath  a0 M = some ρ) : Gk p l e rm_Text_isPath s m args below meth c gk_Y Γ 2 (MQ below (gk_Q gk_Y Γ (some (.int ρ.1)) ρ.2) args s rm_Text_isPath.cells rm_Text_isPath.slots (fun q => Γ.2.2 ≤ q)) 0 0 M 0 [some (va_rf a0), none] [] := by
  unfold fn_Text_isPath at h
  refine Gk_iconst (v := 0) B d_Text_isPath_0 (by decide) ?_
  refine Gk_istore_n (i := 1) (L' := [some (va_rf a0), some (.int 0)]) B d_Text_isPath_1 rfl (by decide) (gk_c1_r rfl) rfl ?_
  exact sn_Text_isPath_2 B hr h
theorem sn_Text_isPath {l : Launch} {Γ : gk_G} {a0 : Option Nat} {M : gk_M} {ρ : Int32 × gk_M} (h : fn_Text_isPath a0 M = some ρ) : gk_Met l gk_Y Γ y_Text_isPath (.code y_Text_isPath c_Text_isPath 2 (some .boolean) :: gk_Y.2.2.2) rm_Text_isPath [va_rf a0] M (some (.int ρ.1)) ρ.2 :=
  gk_start (by decide) (by simp [lg_sl, gk_rc, gk_ic, gk_jc]) [some (va_rf a0), none] (by simp [gk_as, lv_args, gk_rc, gk_ic, gk_jc]) (fun p e s m args below meth c B hr hin => sn_Text_isPath_0 B hr h)
theorem d_SD_isConcrete_0 : decode c_SD_isConcrete 0 = .ok (.iload_n 0, 1) := by decide +kernel
theorem d_SD_isConcrete_1 : decode c_SD_isConcrete 1 = .ok (.invokestatic 92, 3) := by decide +kernel
theorem d_SD_isConcrete_4 : decode c_SD_isConcrete 4 = .ok (.ifCond .eq 14, 3) := by decide +kernel
theorem d_SD_isConcrete_7 : decode c_SD_isConcrete 7 = .ok (.iload_n 0, 1) := by decide +kernel
theorem d_SD_isConcrete_8 : decode c_SD_isConcrete 8 = .ok (.bipush 15, 2) := by decide +kernel
theorem d_SD_isConcrete_10 : decode c_SD_isConcrete 10 = .ok (.iand, 1) := by decide +kernel
theorem d_SD_isConcrete_11 : decode c_SD_isConcrete 11 = .ok (.ifCond .eq 7, 3) := by decide +kernel
theorem d_SD_isConcrete_14 : decode c_SD_isConcrete 14 = .ok (.iconst 1, 1) := by decide +kernel
theorem d_SD_isConcrete_15 : decode c_SD_isConcrete 15 = .ok (.goto 4, 3) := by decide +kernel
theorem d_SD_isConcrete_18 : decode c_SD_isConcrete 18 = .ok (.iconst 0, 1) := by decide +kernel
theorem d_SD_isConcrete_19 : decode c_SD_isConcrete 19 = .ok (.ireturn, 1) := by decide +kernel
set_option maxHeartbeats 4000000 in
set_option maxRecDepth 100000 in
theorem sn_SD_isConcrete_18 {l : Launch} {Γ : gk_G} {p : Program} {e : Env} {s : State} {m : MethodId} {args : Array Value} {below : List Frame} {meth : Method} {c : Code} (B : gk_B p s m args meth c gk_Y Γ c_SD_isConcrete 1 "StageDispatcher") (hr : meth.sig.returnType = (some .boolean)) {ρ : Int32 × gk_M}    {M : gk_M} (h : fn_SD_isConcrete_18   M = some ρ) : Gk p l e rm_SD_isConcrete s m args below meth c gk_Y Γ 1 (MQ below (gk_Q gk_Y Γ (some (.int ρ.1)) ρ.2) args s rm_SD_isConcrete.cells rm_SD_isConcrete.slots (fun q => Γ.2.2 ≤ q)) 0 0 M 18 [none] [] := by
  unfold fn_SD_isConcrete_18 at h
  refine Gk_iconst (v := 0) B d_SD_isConcrete_18 (by decide) ?_
  obtain ⟨z, hz, h⟩ := gk_bind h
  obtain ⟨hz1, hz2⟩ := gk_z_eq hz
  cases h
  subst hz1
  exact Gk_iret B hr d_SD_isConcrete_19 (gk_nz hz2) (by decide) (by decide) rfl
set_option maxHeartbeats 4000000 in
set_option maxRecDepth 100000 in
theorem sn_SD_isConcrete_0 {l : Launch} {Γ : gk_G} {p : Program} {e : Env} {s : State} {m : MethodId} {args : Array Value} {below : List Frame} {meth : Method} {c : Code} (B : gk_B p s m args meth c gk_Y Γ c_SD_isConcrete 1 "StageDispatcher") (hr : meth.sig.returnType = (some .boolean)) {ρ : Int32 × gk_M}   {x0 : Int32} {M : gk_M} (h : fn_SD_isConcrete  x0 M = some ρ) : Gk p l e rm_SD_isConcrete s m args below meth c gk_Y Γ 1 (MQ below (gk_Q gk_Y Γ (some (.int ρ.1)) ρ.2) args s rm_SD_isConcrete.cells rm_SD_isConcrete.slots (fun q => Γ.2.2 ≤ q)) 0 0 M 0 [some (.int x0)] [] := by
  unfold fn_SD_isConcrete at h
  refine Gk_iload_n (i := 0) (x := x0) B d_SD_isConcrete_0 rfl rfl ?_
  obtain ⟨w1, h1, h⟩ := gk_bind h
  refine Gk_callS (As := [.int x0]) (rest := []) (st1 := [.int w1.1]) (k1 := 0) (n1 := 0) B gk_hG d_SD_isConcrete_1 (sn_SD_isType h1) tw_380 tw_378 tw_379 tw_40 nm_SD_isType rfl (by decide) ⟨by decide, by decide⟩ ⟨by decide, by decide⟩ rfl rfl rfl rfl ?_
  refine Gk_if_eq (tgt := 18) B d_SD_isConcrete_4 rfl (fun c4 => ?_) (fun c4 => ?_)
  · rw [if_pos c4] at h
    refine Gk_weak [false] (L' := [none]) rfl ?_
    exact sn_SD_isConcrete_18 B hr h
  rw [if_neg c4] at h
  refine Gk_iload_n (i := 0) (x := x0) B d_SD_isConcrete_7 rfl rfl ?_
  refine Gk_bipush (v := 15) B d_SD_isConcrete_8 (by decide) ?_
  refine Gk_iand B d_SD_isConcrete_10 ?_
  refine Gk_if_eq (tgt := 18) B d_SD_isConcrete_11 rfl (fun c11 => ?_) (fun c11 => ?_)
  · rw [if_pos c11] at h
    refine Gk_weak [false] (L' := [none]) rfl ?_
    exact sn_SD_isConcrete_18 B hr h
  rw [if_neg c11] at h
  refine Gk_iconst (v := 1) B d_SD_isConcrete_14 (by decide) ?_
  refine Gk_goto (tgt := 19) B d_SD_isConcrete_15 rfl ?_
  obtain ⟨z, hz, h⟩ := gk_bind h
  obtain ⟨hz1, hz2⟩ := gk_z_eq hz
  cases h
  subst hz1
  exact Gk_iret B hr d_SD_isConcrete_19 (gk_nz hz2) (by decide) (by decide) rfl
theorem sn_SD_isConcrete {l : Launch} {Γ : gk_G} {x0 : Int32} {M : gk_M} {ρ : Int32 × gk_M} (h : fn_SD_isConcrete x0 M = some ρ) : gk_Met l gk_Y Γ y_SD_isConcrete (.code y_SD_isConcrete c_SD_isConcrete 1 (some .boolean) :: gk_Y.2.2.2) rm_SD_isConcrete [.int x0] M (some (.int ρ.1)) ρ.2 :=
  gk_start (by decide) (by simp [lg_sl, gk_rc, gk_ic, gk_jc]) [some (.int x0)] (by simp [gk_as, lv_args, gk_rc, gk_ic, gk_jc]) (fun p e s m args below meth c B hr hin => sn_SD_isConcrete_0 B hr h)
theorem d_Text_copyFrom_0 : decode c_Text_copyFrom 0 = .ok (.aload_n 1, 1) := by decide +kernel
theorem d_Text_copyFrom_1 : decode c_Text_copyFrom 1 = .ok (.getfield 9, 3) := by decide +kernel
theorem d_Text_copyFrom_4 : decode c_Text_copyFrom 4 = .ok (.iconst 0, 1) := by decide +kernel
theorem d_Text_copyFrom_5 : decode c_Text_copyFrom 5 = .ok (.aload_n 0, 1) := by decide +kernel
theorem d_Text_copyFrom_6 : decode c_Text_copyFrom 6 = .ok (.getfield 9, 3) := by decide +kernel
theorem d_Text_copyFrom_9 : decode c_Text_copyFrom 9 = .ok (.iconst 0, 1) := by decide +kernel
theorem d_Text_copyFrom_10 : decode c_Text_copyFrom 10 = .ok (.aload_n 1, 1) := by decide +kernel
theorem d_Text_copyFrom_11 : decode c_Text_copyFrom 11 = .ok (.getfield 15, 3) := by decide +kernel
theorem d_Text_copyFrom_14 : decode c_Text_copyFrom 14 = .ok (.invokestatic 19, 3) := by decide +kernel
theorem d_Text_copyFrom_17 : decode c_Text_copyFrom 17 = .ok (.aload_n 0, 1) := by decide +kernel
theorem d_Text_copyFrom_18 : decode c_Text_copyFrom 18 = .ok (.aload_n 1, 1) := by decide +kernel
theorem d_Text_copyFrom_19 : decode c_Text_copyFrom 19 = .ok (.getfield 15, 3) := by decide +kernel
theorem d_Text_copyFrom_22 : decode c_Text_copyFrom 22 = .ok (.putfield 15, 3) := by decide +kernel
theorem d_Text_copyFrom_25 : decode c_Text_copyFrom 25 = .ok (.return_, 1) := by decide +kernel
set_option maxHeartbeats 4000000 in
set_option maxRecDepth 100000 in
theorem sn_Text_copyFrom_0 {l : Launch} {Γ : gk_G} {p : Program} {e : Env} {s : State} {m : MethodId} {args : Array Value} {below : List Frame} {meth : Method} {c : Code} (B : gk_B p s m args meth c gk_Y Γ c_Text_copyFrom 2 "StageDispatcher$Text") (hr : meth.sig.returnType = none) {ρ : gk_M}   {a0 : Option Nat} {a1 : Option Nat} {M : gk_M} (h : fn_Text_copyFrom  a0 a1 M = some ρ) : Gk p l e rm_Text_copyFrom s m args below meth c gk_Y Γ 2 (MQ below (gk_Q gk_Y Γ none ρ) args s rm_Text_copyFrom.cells rm_Text_copyFrom.slots (fun q => Γ.2.2 ≤ q)) 0 0 M 0 [some (va_rf a0), some (va_rf a1)] [] := by
  unfold fn_Text_copyFrom at h
  refine Gk_aload_n (i := 1) (r := a1) B d_Text_copyFrom_0 rfl rfl ?_
  obtain ⟨v1, h1, h⟩ := gk_bind h
  refine Gk_getR (j := 0) B d_Text_copyFrom_1 in_Text cl_Text (by decide) tw_70 rfl h1 ?_
  refine Gk_iconst (v := 0) B d_Text_copyFrom_4 (by decide) ?_
  refine Gk_aload_n (i := 0) (r := a0) B d_Text_copyFrom_5 rfl rfl ?_
  obtain ⟨v6, h6, h⟩ := gk_bind h
  refine Gk_getR (j := 0) B d_Text_copyFrom_6 in_Text cl_Text (by decide) tw_70 rfl h6 ?_
  refine Gk_iconst (v := 0) B d_Text_copyFrom_9 (by decide) ?_
  refine Gk_aload_n (i := 1) (r := a1) B d_Text_copyFrom_10 rfl rfl ?_
  obtain ⟨v11, h11, h⟩ := gk_bind h
  refine Gk_getI (j := 1) B d_Text_copyFrom_11 in_Text cl_Text (by decide) tw_76 rfl h11 ?_
  obtain ⟨M14, h14, h⟩ := gk_bind h
  refine Gk_copy B d_Text_copyFrom_14 ty_1 rfl tw_540 tw_542 tw_541 tw_55 (by decide) (by decide) h14 ?_
  refine Gk_aload_n (i := 0) (r := a0) B d_Text_copyFrom_17 rfl rfl ?_
  refine Gk_aload_n (i := 1) (r := a1) B d_Text_copyFrom_18 rfl rfl ?_
  obtain ⟨v19, h19, h⟩ := gk_bind h
  refine Gk_getI (j := 1) B d_Text_copyFrom_19 in_Text cl_Text (by decide) tw_76 rfl h19 ?_
  obtain ⟨M22, h22, h⟩ := gk_bind h
  refine Gk_put (j := 1) (ty := .int) B d_Text_copyFrom_22 in_Text t_Text t_Text_ok n_Text cl_Text (by decide) tw_76 rfl rfl rfl rfl rfl h22 ?_
  cases h
  exact Gk_vret B hr d_Text_copyFrom_25 (by decide) (by decide) rfl
theorem sn_Text_copyFrom {l : Launch} {Γ : gk_G} {a0 : Option Nat} {a1 : Option Nat} {M : gk_M} {ρ : gk_M} (h : fn_Text_copyFrom a0 a1 M = some ρ) : gk_Met l gk_Y Γ y_Text_copyFrom (.code y_Text_copyFrom c_Text_copyFrom 2 none :: gk_Y.2.2.2) rm_Text_copyFrom [va_rf a0, va_rf a1] M none ρ :=
  gk_start (by decide) (by simp [lg_sl, gk_rc, gk_ic, gk_jc]) [some (va_rf a0), some (va_rf a1)] (by simp [gk_as, lv_args, gk_rc, gk_ic, gk_jc]) (fun p e s m args below meth c B hr hin => sn_Text_copyFrom_0 B hr h)
theorem d_Outcome_begin_0 : decode c_Outcome_begin 0 = .ok (.aload_n 0, 1) := by decide +kernel
theorem d_Outcome_begin_1 : decode c_Outcome_begin 1 = .ok (.getfield 12, 3) := by decide +kernel
theorem d_Outcome_begin_4 : decode c_Outcome_begin 4 = .ok (.aload_n 1, 1) := by decide +kernel
theorem d_Outcome_begin_5 : decode c_Outcome_begin 5 = .ok (.invokevirtual 56, 3) := by decide +kernel
theorem d_Outcome_begin_8 : decode c_Outcome_begin 8 = .ok (.aload_n 0, 1) := by decide +kernel
theorem d_Outcome_begin_9 : decode c_Outcome_begin 9 = .ok (.iconst 0, 1) := by decide +kernel
theorem d_Outcome_begin_10 : decode c_Outcome_begin 10 = .ok (.putfield 31, 3) := by decide +kernel
theorem d_Outcome_begin_13 : decode c_Outcome_begin 13 = .ok (.aload_n 0, 1) := by decide +kernel
theorem d_Outcome_begin_14 : decode c_Outcome_begin 14 = .ok (.iconst 0, 1) := by decide +kernel
theorem d_Outcome_begin_15 : decode c_Outcome_begin 15 = .ok (.putfield 35, 3) := by decide +kernel
theorem d_Outcome_begin_18 : decode c_Outcome_begin 18 = .ok (.aload_n 0, 1) := by decide +kernel
theorem d_Outcome_begin_19 : decode c_Outcome_begin 19 = .ok (.iconst 0, 1) := by decide +kernel
theorem d_Outcome_begin_20 : decode c_Outcome_begin 20 = .ok (.putfield 38, 3) := by decide +kernel
theorem d_Outcome_begin_23 : decode c_Outcome_begin 23 = .ok (.aload_n 0, 1) := by decide +kernel
theorem d_Outcome_begin_24 : decode c_Outcome_begin 24 = .ok (.iconst (-1), 1) := by decide +kernel
theorem d_Outcome_begin_25 : decode c_Outcome_begin 25 = .ok (.putfield 41, 3) := by decide +kernel
theorem d_Outcome_begin_28 : decode c_Outcome_begin 28 = .ok (.aload_n 0, 1) := by decide +kernel
theorem d_Outcome_begin_29 : decode c_Outcome_begin 29 = .ok (.iconst (-1), 1) := by decide +kernel
theorem d_Outcome_begin_30 : decode c_Outcome_begin 30 = .ok (.putfield 44, 3) := by decide +kernel
theorem d_Outcome_begin_33 : decode c_Outcome_begin 33 = .ok (.aload_n 0, 1) := by decide +kernel
theorem d_Outcome_begin_34 : decode c_Outcome_begin 34 = .ok (.iconst 0, 1) := by decide +kernel
theorem d_Outcome_begin_35 : decode c_Outcome_begin 35 = .ok (.putfield 47, 3) := by decide +kernel
theorem d_Outcome_begin_38 : decode c_Outcome_begin 38 = .ok (.aload_n 0, 1) := by decide +kernel
theorem d_Outcome_begin_39 : decode c_Outcome_begin 39 = .ok (.iconst 0, 1) := by decide +kernel
theorem d_Outcome_begin_40 : decode c_Outcome_begin 40 = .ok (.putfield 50, 3) := by decide +kernel
theorem d_Outcome_begin_43 : decode c_Outcome_begin 43 = .ok (.aload_n 0, 1) := by decide +kernel
theorem d_Outcome_begin_44 : decode c_Outcome_begin 44 = .ok (.iconst (-1), 1) := by decide +kernel
theorem d_Outcome_begin_45 : decode c_Outcome_begin 45 = .ok (.putfield 53, 3) := by decide +kernel
theorem d_Outcome_begin_48 : decode c_Outcome_begin 48 = .ok (.return_, 1) := by decide +kernel
set_option maxHeartbeats 4000000 in
set_option maxRecDepth 100000 in
theorem sn_Outcome_begin_0 {l : Launch} {Γ : gk_G} {p : Program} {e : Env} {s : State} {m : MethodId} {args : Array Value} {below : List Frame} {meth : Method} {c : Code} (B : gk_B p s m args meth c gk_Y Γ c_Outcome_begin 2 "StageDispatcher$Outcome") (hr : meth.sig.returnType = none) {ρ : gk_M}   {a0 : Option Nat} {a1 : Option Nat} {M : gk_M} (h : fn_Outcome_begin  a0 a1 M = some ρ) : Gk p l e rm_Outcome_begin s m args below meth c gk_Y Γ 2 (MQ below (gk_Q gk_Y Γ none ρ) args s rm_Outcome_begin.cells rm_Outcome_begin.slots (fun q => Γ.2.2 ≤ q)) 0 0 M 0 [some (va_rf a0), some (va_rf a1)] [] := by
  unfold fn_Outcome_begin at h
  refine Gk_aload_n (i := 0) (r := a0) B d_Outcome_begin_0 rfl rfl ?_
  obtain ⟨v1, h1, h⟩ := gk_bind h
  refine Gk_getR (j := 0) B d_Outcome_begin_1 in_Outcome cl_Outcome (by decide) tw_224 rfl h1 ?_
  refine Gk_aload_n (i := 1) (r := a1) B d_Outcome_begin_4 rfl rfl ?_
  obtain ⟨o5, g5, h⟩ := gk_bind h
  obtain ⟨w5, h5, h⟩ := gk_bind h
  refine Gk_callV (As := [va_rf a1]) (rest := []) (st1 := []) (k1 := 0) (n1 := 0) B gk_hG d_Outcome_begin_5 (sn_Text_copyFrom h5) g5 cl_Text tw_539 tw_536 tw_537 tw_538 tw_41 nm_Text_copyFrom rfl (by decide) ⟨by decide, by decide⟩ ⟨by decide, by decide⟩ rfl rfl rfl rfl ?_
  refine Gk_aload_n (i := 0) (r := a0) B d_Outcome_begin_8 rfl rfl ?_
  refine Gk_iconst (v := 0) B d_Outcome_begin_9 (by decide) ?_
  obtain ⟨M10, h10, h⟩ := gk_bind h
  refine Gk_put (j := 5) (ty := .int) B d_Outcome_begin_10 in_Outcome t_Outcome t_Outcome_ok n_Outcome cl_Outcome (by decide) tw_235 rfl rfl rfl rfl rfl h10 ?_
  refine Gk_aload_n (i := 0) (r := a0) B d_Outcome_begin_13 rfl rfl ?_
  refine Gk_iconst (v := 0) B d_Outcome_begin_14 (by decide) ?_
  obtain ⟨M15, h15, h⟩ := gk_bind h
  refine Gk_put (j := 6) (ty := .int) B d_Outcome_begin_15 in_Outcome t_Outcome t_Outcome_ok n_Outcome cl_Outcome (by decide) tw_237 rfl rfl rfl rfl rfl h15 ?_
  refine Gk_aload_n (i := 0) (r := a0) B d_Outcome_begin_18 rfl rfl ?_
  refine Gk_iconst (v := 0) B d_Outcome_begin_19 (by decide) ?_
  obtain ⟨M20, h20, h⟩ := gk_bind h
  refine Gk_put (j := 7) (ty := .int) B d_Outcome_begin_20 in_Outcome t_Outcome t_Outcome_ok n_Outcome cl_Outcome (by decide) tw_239 rfl rfl rfl rfl rfl h20 ?_
  refine Gk_aload_n (i := 0) (r := a0) B d_Outcome_begin_23 rfl rfl ?_
  refine Gk_iconst (v := (-1)) B d_Outcome_begin_24 (by decide) ?_
  obtain ⟨M25, h25, h⟩ := gk_bind h
  refine Gk_put (j := 8) (ty := .int) B d_Outcome_begin_25 in_Outcome t_Outcome t_Outcome_ok n_Outcome cl_Outcome (by decide) tw_241 rfl rfl rfl rfl rfl h25 ?_
  refine Gk_aload_n (i := 0) (r := a0) B d_Outcome_begin_28 rfl rfl ?_
  refine Gk_iconst (v := (-1)) B d_Outcome_begin_29 (by decide) ?_
  obtain ⟨M30, h30, h⟩ := gk_bind h
  refine Gk_put (j := 9) (ty := .int) B d_Outcome_begin_30 in_Outcome t_Outcome t_Outcome_ok n_Outcome cl_Outcome (by decide) tw_243 rfl rfl rfl rfl rfl h30 ?_
  refine Gk_aload_n (i := 0) (r := a0) B d_Outcome_begin_33 rfl rfl ?_
  refine Gk_iconst (v := 0) B d_Outcome_begin_34 (by decide) ?_
  obtain ⟨M35, h35, h⟩ := gk_bind h
  refine Gk_put (j := 10) (ty := .int) B d_Outcome_begin_35 in_Outcome t_Outcome t_Outcome_ok n_Outcome cl_Outcome (by decide) tw_245 rfl rfl rfl rfl rfl h35 ?_
  refine Gk_aload_n (i := 0) (r := a0) B d_Outcome_begin_38 rfl rfl ?_
  refine Gk_iconst (v := 0) B d_Outcome_begin_39 (by decide) ?_
  obtain ⟨M40, h40, h⟩ := gk_bind h
  refine Gk_put (j := 11) (ty := .int) B d_Outcome_begin_40 in_Outcome t_Outcome t_Outcome_ok n_Outcome cl_Outcome (by decide) tw_247 rfl rfl rfl rfl rfl h40 ?_
  refine Gk_aload_n (i := 0) (r := a0) B d_Outcome_begin_43 rfl rfl ?_
  refine Gk_iconst (v := (-1)) B d_Outcome_begin_44 (by decide) ?_
  obtain ⟨M45, h45, h⟩ := gk_bind h
  refine Gk_put (j := 12) (ty := .int) B d_Outcome_begin_45 in_Outcome t_Outcome t_Outcome_ok n_Outcome cl_Outcome (by decide) tw_249 rfl rfl rfl rfl rfl h45 ?_
  cases h
  exact Gk_vret B hr d_Outcome_begin_48 (by decide) (by decide) rfl
theorem sn_Outcome_begin {l : Launch} {Γ : gk_G} {a0 : Option Nat} {a1 : Option Nat} {M : gk_M} {ρ : gk_M} (h : fn_Outcome_begin a0 a1 M = some ρ) : gk_Met l gk_Y Γ y_Outcome_begin (.code y_Outcome_begin c_Outcome_begin 2 none :: gk_Y.2.2.2) rm_Outcome_begin [va_rf a0, va_rf a1] M none ρ :=
  gk_start (by decide) (by simp [lg_sl, gk_rc, gk_ic, gk_jc]) [some (va_rf a0), some (va_rf a1)] (by simp [gk_as, lv_args, gk_rc, gk_ic, gk_jc]) (fun p e s m args below meth c B hr hin => sn_Outcome_begin_0 B hr h)
theorem d_Accepted_addDefault_0 : decode c_Accepted_addDefault 0 = .ok (.aload_n 0, 1) := by decide +kernel
theorem d_Accepted_addDefault_1 : decode c_Accepted_addDefault 1 = .ok (.getfield 18, 3) := by decide +kernel
theorem d_Accepted_addDefault_4 : decode c_Accepted_addDefault 4 = .ok (.ifCond .ne 11, 3) := by decide +kernel
theorem d_Accepted_addDefault_7 : decode c_Accepted_addDefault 7 = .ok (.aload_n 0, 1) := by decide +kernel
theorem d_Accepted_addDefault_8 : decode c_Accepted_addDefault 8 = .ok (.iconst 0, 1) := by decide +kernel
theorem d_Accepted_addDefault_9 : decode c_Accepted_addDefault 9 = .ok (.sipush 1000, 3) := by decide +kernel
theorem d_Accepted_addDefault_12 : decode c_Accepted_addDefault 12 = .ok (.invokevirtual 22, 3) := by decide +kernel
theorem d_Accepted_addDefault_15 : decode c_Accepted_addDefault 15 = .ok (.return_, 1) := by decide +kernel
set_option maxHeartbeats 4000000 in
set_option maxRecDepth 100000 in
theorem sn_Accepted_addDefault_0 {l : Launch} {Γ : gk_G} {p : Program} {e : Env} {s : State} {m : MethodId} {args : Array Value} {below : List Frame} {meth : Method} {c : Code} (B : gk_B p s m args meth c gk_Y Γ c_Accepted_addDefault 1 "StageDispatcher$Accepted") (hr : meth.sig.returnType = none) {ρ : gk_M}   {a0 : Option Nat} {M : gk_M} (h : fn_Accepted_addDefault  a0 M = some ρ) : Gk p l e rm_Accepted_addDefault s m args below meth c gk_Y Γ 1 (MQ below (gk_Q gk_Y Γ none ρ) args s rm_Accepted_addDefault.cells rm_Accepted_addDefault.slots (fun q => Γ.2.2 ≤ q)) 0 0 M 0 [some (va_rf a0)] [] := by
  unfold fn_Accepted_addDefault at h
  refine Gk_aload_n (i := 0) (r := a0) B d_Accepted_addDefault_0 rfl rfl ?_
  obtain ⟨v1, h1, h⟩ := gk_bind h
  refine Gk_getI (j := 2) B d_Accepted_addDefault_1 in_Accepted cl_Accepted (by decide) tw_161 rfl h1 ?_
  refine Gk_if_ne (tgt := 15) B d_Accepted_addDefault_4 rfl (fun c4 => ?_) (fun c4 => ?_)
  · rw [if_neg c4] at h
    cases h
    exact Gk_vret B hr d_Accepted_addDefault_15 (by decide) (by decide) rfl
  rw [if_pos c4] at h
  refine Gk_aload_n (i := 0) (r := a0) B d_Accepted_addDefault_7 rfl rfl ?_
  refine Gk_iconst (v := 0) B d_Accepted_addDefault_8 (by decide) ?_
  refine Gk_sipush (v := 1000) B d_Accepted_addDefault_9 (by decide) ?_
  obtain ⟨o12, g12, h⟩ := gk_bind h
  obtain ⟨w12, h12, h⟩ := gk_bind h
  refine Gk_callV (As := [.int 0, .int 1000]) (rest := []) (st1 := []) (k1 := 0) (n1 := 0) B gk_hG d_Accepted_addDefault_12 (sn_Accepted_add h12) g12 cl_Accepted tw_519 tw_547 tw_517 tw_518 tw_44 nm_Accepted_add rfl (by decide) ⟨by decide, by decide⟩ ⟨by decide, by decide⟩ rfl rfl rfl rfl ?_
  cases h
  exact Gk_vret B hr d_Accepted_addDefault_15 (by decide) (by decide) rfl
theorem sn_Accepted_addDefault {l : Launch} {Γ : gk_G} {a0 : Option Nat} {M : gk_M} {ρ : gk_M} (h : fn_Accepted_addDefault a0 M = some ρ) : gk_Met l gk_Y Γ y_Accepted_addDefault (.code y_Accepted_addDefault c_Accepted_addDefault 1 none :: gk_Y.2.2.2) rm_Accepted_addDefault [va_rf a0] M none ρ :=
  gk_start (by decide) (by simp [lg_sl, gk_rc, gk_ic, gk_jc]) [some (va_rf a0)] (by simp [gk_as, lv_args, gk_rc, gk_ic, gk_jc]) (fun p e s m args below meth c B hr hin => sn_Accepted_addDefault_0 B hr h)
theorem d_SD_isBound_0 : decode c_SD_isBound 0 = .ok (.aload_n 0, 1) := by decide +kernel
theorem d_SD_isBound_1 : decode c_SD_isBound 1 = .ok (.getfield 47, 3) := by decide +kernel
theorem d_SD_isBound_4 : decode c_SD_isBound 4 = .ok (.getfield 236, 3) := by decide +kernel
theorem d_SD_isBound_7 : decode c_SD_isBound 7 = .ok (.iconst (-1), 1) := by decide +kernel
theorem d_SD_isBound_8 : decode c_SD_isBound 8 = .ok (.if_icmp .ne 7, 3) := by decide +kernel
theorem d_SD_isBound_11 : decode c_SD_isBound 11 = .ok (.iconst 0, 1) := by decide +kernel
theorem d_SD_isBound_12 : decode c_SD_isBound 12 = .ok (.goto 21, 3) := by decide +kernel
theorem d_SD_isBound_15 : decode c_SD_isBound 15 = .ok (.aload_n 0, 1) := by decide +kernel
theorem d_SD_isBound_16 : decode c_SD_isBound 16 = .ok (.getfield 19, 3) := by decide +kernel
theorem d_SD_isBound_19 : decode c_SD_isBound 19 = .ok (.getfield 111, 3) := by decide +kernel
theorem d_SD_isBound_22 : decode c_SD_isBound 22 = .ok (.aload_n 0, 1) := by decide +kernel
theorem d_SD_isBound_23 : decode c_SD_isBound 23 = .ok (.getfield 47, 3) := by decide +kernel
theorem d_SD_isBound_26 : decode c_SD_isBound 26 = .ok (.getfield 236, 3) := by decide +kernel
theorem d_SD_isBound_29 : decode c_SD_isBound 29 = .ok (.aaload, 1) := by decide +kernel
theorem d_SD_isBound_30 : decode c_SD_isBound 30 = .ok (.getfield 118, 3) := by decide +kernel
theorem d_SD_isBound_33 : decode c_SD_isBound 33 = .ok (.istore_n 2, 1) := by decide +kernel
theorem d_SD_isBound_34 : decode c_SD_isBound 34 = .ok (.aload_n 1, 1) := by decide +kernel
theorem d_SD_isBound_35 : decode c_SD_isBound 35 = .ok (.getfield 269, 3) := by decide +kernel
theorem d_SD_isBound_38 : decode c_SD_isBound 38 = .ok (.ifCond .eq 11, 3) := by decide +kernel
theorem d_SD_isBound_41 : decode c_SD_isBound 41 = .ok (.aload_n 1, 1) := by decide +kernel
theorem d_SD_isBound_42 : decode c_SD_isBound 42 = .ok (.getfield 269, 3) := by decide +kernel
theorem d_SD_isBound_45 : decode c_SD_isBound 45 = .ok (.iload_n 2, 1) := by decide +kernel
theorem d_SD_isBound_46 : decode c_SD_isBound 46 = .ok (.if_icmp .ne 7, 3) := by decide +kernel
theorem d_SD_isBound_49 : decode c_SD_isBound 49 = .ok (.iconst 1, 1) := by decide +kernel
theorem d_SD_isBound_50 : decode c_SD_isBound 50 = .ok (.goto 4, 3) := by decide +kernel
theorem d_SD_isBound_53 : decode c_SD_isBound 53 = .ok (.iconst 0, 1) := by decide +kernel
theorem d_SD_isBound_54 : decode c_SD_isBound 54 = .ok (.ireturn, 1) := by decide +kernel
set_option maxHeartbeats 4000000 in
set_option maxRecDepth 100000 in
theorem sn_SD_isBound_49 {l : Launch} {Γ : gk_G} {p : Program} {e : Env} {s : State} {m : MethodId} {args : Array Value} {below : List Frame} {meth : Method} {c : Code} (B : gk_B p s m args meth c gk_Y Γ c_SD_isBound 3 "StageDispatcher") (hr : meth.sig.returnType = (some .boolean)) {ρ : Int32 × gk_M}    {M : gk_M} (h : fn_SD_isBound_49   M = some ρ) : Gk p l e rm_SD_isBound s m args below meth c gk_Y Γ 3 (MQ below (gk_Q gk_Y Γ (some (.int ρ.1)) ρ.2) args s rm_SD_isBound.cells rm_SD_isBound.slots (fun q => Γ.2.2 ≤ q)) 0 0 M 49 [none, none, none] [] := by
  unfold fn_SD_isBound_49 at h
  refine Gk_iconst (v := 1) B d_SD_isBound_49 (by decide) ?_
  refine Gk_goto (tgt := 54) B d_SD_isBound_50 rfl ?_
  obtain ⟨z, hz, h⟩ := gk_bind h
  obtain ⟨hz1, hz2⟩ := gk_z_eq hz
  cases h
  subst hz1
  exact Gk_iret B hr d_SD_isBound_54 (gk_nz hz2) (by decide) (by decide) rfl
set_option maxHeartbeats 4000000 in
set_option maxRecDepth 100000 in
theorem sn_SD_isBound_33 {l : Launch} {Γ : gk_G} {p : Program} {e : Env} {s : State} {m : MethodId} {args : Array Value} {below : List Frame} {meth : Method} {c : Code} (B : gk_B p s m args meth c gk_Y Γ c_SD_isBound 3 "StageDispatcher") (hr : meth.sig.returnType = (some .boolean)) {ρ : Int32 × gk_M}   {a1 : Option Nat} {s0 : Int32} {M : gk_M} (h : fn_SD_isBound_33  a1 s0 M = some ρ) : Gk p l e rm_SD_isBound s m args below meth c gk_Y Γ 3 (MQ below (gk_Q gk_Y Γ (some (.int ρ.1)) ρ.2) args s rm_SD_isBound.cells rm_SD_isBound.slots (fun q => Γ.2.2 ≤ q)) 0 0 M 33 [none, some (va_rf a1), none] [.int s0] := by
  unfold fn_SD_isBound_33 at h
  refine Gk_istore_n (i := 2) (L' := [none, some (va_rf a1), some (.int s0)]) B d_SD_isBound_33 rfl (by decide) (gk_c1_r rfl) rfl ?_
  refine Gk_aload_n (i := 1) (r := a1) B d_SD_isBound_34 rfl rfl ?_
  obtain ⟨v35, h35, h⟩ := gk_bind h
  refine Gk_getIN (j := 1) B d_SD_isBound_35 in_Filter cl_Filter (by decide) nw_486 rfl h35 ?_
  refine Gk_if_eq (tgt := 49) B d_SD_isBound_38 rfl (fun c38 => ?_) (fun c38 => ?_)
  · rw [if_pos c38] at h
    refine Gk_weak [false, false, false] (L' := [none, none, none]) rfl ?_
    exact sn_SD_isBound_49 B hr h
  rw [if_neg c38] at h
  refine Gk_aload_n (i := 1) (r := a1) B d_SD_isBound_41 rfl rfl ?_
  obtain ⟨v42, h42, h⟩ := gk_bind h
  refine Gk_getIN (j := 1) B d_SD_isBound_42 in_Filter cl_Filter (by decide) nw_486 rfl h42 ?_
  refine Gk_iload_n (i := 2) (x := s0) B d_SD_isBound_45 rfl rfl ?_
  refine Gk_icmp_ne (tgt := 53) B d_SD_isBound_46 rfl (fun c46 => ?_) (fun c46 => ?_)
  · rw [if_neg c46] at h
    refine Gk_iconst (v := 0) B d_SD_isBound_53 (by decide) ?_
    obtain ⟨z, hz, h⟩ := gk_bind h
    obtain ⟨hz1, hz2⟩ := gk_z_eq hz
    cases h
    subst hz1
    exact Gk_iret B hr d_SD_isBound_54 (gk_nz hz2) (by decide) (by decide) rfl
  rw [if_pos c46] at h
  refine Gk_weak [false, false, false] (L' := [none, none, none]) rfl ?_
  exact sn_SD_isBound_49 B hr h
set_option maxHeartbeats 4000000 in
set_option maxRecDepth 100000 in
theorem sn_SD_isBound_0 {l : Launch} {Γ : gk_G} {p : Program} {e : Env} {s : State} {m : MethodId} {args : Array Value} {below : List Frame} {meth : Method} {c : Code} (B : gk_B p s m args meth c gk_Y Γ c_SD_isBound 3 "StageDispatcher") (hr : meth.sig.returnType = (some .boolean)) {ρ : Int32 × gk_M}   {a0 : Option Nat} {a1 : Option Nat} {M : gk_M} (h : fn_SD_isBound  a0 a1 M = some ρ) : Gk p l e rm_SD_isBound s m args below meth c gk_Y Γ 3 (MQ below (gk_Q gk_Y Γ (some (.int ρ.1)) ρ.2) args s rm_SD_isBound.cells rm_SD_isBound.slots (fun q => Γ.2.2 ≤ q)) 0 0 M 0 [some (va_rf a0), some (va_rf a1), none] [] := by
  unfold fn_SD_isBound at h
  refine Gk_aload_n (i := 0) (r := a0) B d_SD_isBound_0 rfl rfl ?_
  obtain ⟨v1, h1, h⟩ := gk_bind h
  refine Gk_getR (j := 5) B d_SD_isBound_1 in_SD cl_SD (by decide) tw_283 rfl h1 ?_
  obtain ⟨v4, h4, h⟩ := gk_bind h
  refine Gk_getI (j := 8) B d_SD_isBound_4 in_Outcome cl_Outcome (by decide) tw_242 rfl h4 ?_
  refine Gk_iconst (v := (-1)) B d_SD_isBound_7 (by decide) ?_
  refine Gk_icmp_ne (tgt := 15) B d_SD_isBound_8 rfl (fun c8 => ?_) (fun c8 => ?_)
  · rw [if_neg c8] at h
    refine Gk_aload_n (i := 0) (r := a0) B d_SD_isBound_15 rfl rfl ?_
    obtain ⟨v16, h16, h⟩ := gk_bind h
    refine Gk_getR (j := 1) B d_SD_isBound_16 in_SD cl_SD (by decide) tw_279 rfl h16 ?_
    obtain ⟨v19, h19, h⟩ := gk_bind h
    refine Gk_getR (j := 1) B d_SD_isBound_19 in_Catalog cl_Catalog (by decide) tw_101 rfl h19 ?_
    refine Gk_aload_n (i := 0) (r := a0) B d_SD_isBound_22 rfl rfl ?_
    obtain ⟨v23, h23, h⟩ := gk_bind h
    refine Gk_getR (j := 5) B d_SD_isBound_23 in_SD cl_SD (by decide) tw_283 rfl h23 ?_
    obtain ⟨v26, h26, h⟩ := gk_bind h
    refine Gk_getI (j := 8) B d_SD_isBound_26 in_Outcome cl_Outcome (by decide) tw_242 rfl h26 ?_
    obtain ⟨v29, h29, h⟩ := gk_bind h
    refine Gk_aaload B d_SD_isBound_29 ty_4 h29 ?_
    obtain ⟨v30, h30, h⟩ := gk_bind h
    refine Gk_getI (j := 7) B d_SD_isBound_30 in_Method cl_Method (by decide) tw_406 rfl h30 ?_
    refine Gk_weak [false, true, false] (L' := [none, some (va_rf a1), none]) rfl ?_
    exact sn_SD_isBound_33 B hr h
  rw [if_pos c8] at h
  refine Gk_iconst (v := 0) B d_SD_isBound_11 (by decide) ?_
  refine Gk_goto (tgt := 33) B d_SD_isBound_12 rfl ?_
  refine Gk_weak [false, true, false] (L' := [none, some (va_rf a1), none]) rfl ?_
  exact sn_SD_isBound_33 B hr h
theorem sn_SD_isBound {l : Launch} {Γ : gk_G} {a0 : Option Nat} {a1 : Option Nat} {M : gk_M} {ρ : Int32 × gk_M} (h : fn_SD_isBound a0 a1 M = some ρ) : gk_Met l gk_Y Γ y_SD_isBound (.code y_SD_isBound c_SD_isBound 3 (some .boolean) :: gk_Y.2.2.2) rm_SD_isBound [va_rf a0, va_rf a1] M (some (.int ρ.1)) ρ.2 :=
  gk_start (by decide) (by simp [lg_sl, gk_rc, gk_ic, gk_jc]) [some (va_rf a0), some (va_rf a1), none] (by simp [gk_as, lv_args, gk_rc, gk_ic, gk_jc]) (fun p e s m args below meth c B hr hin => sn_SD_isBound_0 B hr h)
theorem d_Outcome_addRan_0 : decode c_Outcome_addRan 0 = .ok (.aload_n 0, 1) := by decide +kernel
theorem d_Outcome_addRan_1 : decode c_Outcome_addRan 1 = .ok (.getfield 38, 3) := by decide +kernel
theorem d_Outcome_addRan_4 : decode c_Outcome_addRan 4 = .ok (.aload_n 0, 1) := by decide +kernel
theorem d_Outcome_addRan_5 : decode c_Outcome_addRan 5 = .ok (.getfield 28, 3) := by decide +kernel
theorem d_Outcome_addRan_8 : decode c_Outcome_addRan 8 = .ok (.arraylength, 1) := by decide +kernel
theorem d_Outcome_addRan_9 : decode c_Outcome_addRan 9 = .ok (.if_icmp .ge 23, 3) := by decide +kernel
theorem d_Outcome_addRan_12 : decode c_Outcome_addRan 12 = .ok (.aload_n 0, 1) := by decide +kernel
theorem d_Outcome_addRan_13 : decode c_Outcome_addRan 13 = .ok (.getfield 28, 3) := by decide +kernel
theorem d_Outcome_addRan_16 : decode c_Outcome_addRan 16 = .ok (.aload_n 0, 1) := by decide +kernel
theorem d_Outcome_addRan_17 : decode c_Outcome_addRan 17 = .ok (.getfield 38, 3) := by decide +kernel
theorem d_Outcome_addRan_20 : decode c_Outcome_addRan 20 = .ok (.iload_n 1, 1) := by decide +kernel
theorem d_Outcome_addRan_21 : decode c_Outcome_addRan 21 = .ok (.iastore, 1) := by decide +kernel
theorem d_Outcome_addRan_22 : decode c_Outcome_addRan 22 = .ok (.aload_n 0, 1) := by decide +kernel
theorem d_Outcome_addRan_23 : decode c_Outcome_addRan 23 = .ok (.dup, 1) := by decide +kernel
theorem d_Outcome_addRan_24 : decode c_Outcome_addRan 24 = .ok (.getfield 38, 3) := by decide +kernel
theorem d_Outcome_addRan_27 : decode c_Outcome_addRan 27 = .ok (.iconst 1, 1) := by decide +kernel
theorem d_Outcome_addRan_28 : decode c_Outcome_addRan 28 = .ok (.iadd, 1) := by decide +kernel
theorem d_Outcome_addRan_29 : decode c_Outcome_addRan 29 = .ok (.putfield 38, 3) := by decide +kernel
theorem d_Outcome_addRan_32 : decode c_Outcome_addRan 32 = .ok (.return_, 1) := by decide +kernel
set_option maxHeartbeats 4000000 in
set_option maxRecDepth 100000 in
theorem sn_Outcome_addRan_0 {l : Launch} {Γ : gk_G} {p : Program} {e : Env} {s : State} {m : MethodId} {args : Array Value} {below : List Frame} {meth : Method} {c : Code} (B : gk_B p s m args meth c gk_Y Γ c_Outcome_addRan 2 "StageDispatcher$Outcome") (hr : meth.sig.returnType = none) {ρ : gk_M}   {a0 : Option Nat} {x1 : Int32} {M : gk_M} (h : fn_Outcome_addRan  a0 x1 M = some ρ) : Gk p l e rm_Outcome_addRan s m args below meth c gk_Y Γ 2 (MQ below (gk_Q gk_Y Γ none ρ) args s rm_Outcome_addRan.cells rm_Outcome_addRan.slots (fun q => Γ.2.2 ≤ q)) 0 0 M 0 [some (va_rf a0), some (.int x1)] [] := by
  unfold fn_Outcome_addRan at h
  refine Gk_aload_n (i := 0) (r := a0) B d_Outcome_addRan_0 rfl rfl ?_
  obtain ⟨v1, h1, h⟩ := gk_bind h
  refine Gk_getI (j := 7) B d_Outcome_addRan_1 in_Outcome cl_Outcome (by decide) tw_239 rfl h1 ?_
  refine Gk_aload_n (i := 0) (r := a0) B d_Outcome_addRan_4 rfl rfl ?_
  obtain ⟨v5, h5, h⟩ := gk_bind h
  refine Gk_getR (j := 4) B d_Outcome_addRan_5 in_Outcome cl_Outcome (by decide) tw_233 rfl h5 ?_
  obtain ⟨v8, h8, h⟩ := gk_bind h
  refine Gk_alen B d_Outcome_addRan_8 ty_0 h8 ?_
  refine Gk_icmp_ge (tgt := 32) B d_Outcome_addRan_9 rfl (fun c9 => ?_) (fun c9 => ?_)
  · rw [if_pos c9] at h
    cases h
    exact Gk_vret B hr d_Outcome_addRan_32 (by decide) (by decide) rfl
  rw [if_neg c9] at h
  refine Gk_aload_n (i := 0) (r := a0) B d_Outcome_addRan_12 rfl rfl ?_
  obtain ⟨v13, h13, h⟩ := gk_bind h
  refine Gk_getR (j := 4) B d_Outcome_addRan_13 in_Outcome cl_Outcome (by decide) tw_233 rfl h13 ?_
  refine Gk_aload_n (i := 0) (r := a0) B d_Outcome_addRan_16 rfl rfl ?_
  obtain ⟨v17, h17, h⟩ := gk_bind h
  refine Gk_getI (j := 7) B d_Outcome_addRan_17 in_Outcome cl_Outcome (by decide) tw_239 rfl h17 ?_
  refine Gk_iload_n (i := 1) (x := x1) B d_Outcome_addRan_20 rfl rfl ?_
  obtain ⟨M21, h21, h⟩ := gk_bind h
  refine Gk_iastore B d_Outcome_addRan_21 ty_0 h21 ?_
  refine Gk_aload_n (i := 0) (r := a0) B d_Outcome_addRan_22 rfl rfl ?_
  refine Gk_dup B d_Outcome_addRan_23 (gk_rc _) ?_
  obtain ⟨v24, h24, h⟩ := gk_bind h
  refine Gk_getI (j := 7) B d_Outcome_addRan_24 in_Outcome cl_Outcome (by decide) tw_239 rfl h24 ?_
  refine Gk_iconst (v := 1) B d_Outcome_addRan_27 (by decide) ?_
  refine Gk_iadd B d_Outcome_addRan_28 ?_
  obtain ⟨M29, h29, h⟩ := gk_bind h
  refine Gk_put (j := 7) (ty := .int) B d_Outcome_addRan_29 in_Outcome t_Outcome t_Outcome_ok n_Outcome cl_Outcome (by decide) tw_239 rfl rfl rfl rfl rfl h29 ?_
  cases h
  exact Gk_vret B hr d_Outcome_addRan_32 (by decide) (by decide) rfl
theorem sn_Outcome_addRan {l : Launch} {Γ : gk_G} {a0 : Option Nat} {x1 : Int32} {M : gk_M} {ρ : gk_M} (h : fn_Outcome_addRan a0 x1 M = some ρ) : gk_Met l gk_Y Γ y_Outcome_addRan (.code y_Outcome_addRan c_Outcome_addRan 2 none :: gk_Y.2.2.2) rm_Outcome_addRan [va_rf a0, .int x1] M none ρ :=
  gk_start (by decide) (by simp [lg_sl, gk_rc, gk_ic, gk_jc]) [some (va_rf a0), some (.int x1)] (by simp [gk_as, lv_args, gk_rc, gk_ic, gk_jc]) (fun p e s m args below meth c B hr hin => sn_Outcome_addRan_0 B hr h)
theorem d_SD_runFilters_0 : decode c_SD_runFilters 0 = .ok (.iload_n 2, 1) := by decide +kernel
theorem d_SD_runFilters_1 : decode c_SD_runFilters 1 = .ok (.istore 4, 2) := by decide +kernel
theorem d_SD_runFilters_3 : decode c_SD_runFilters 3 = .ok (.iconst 0, 1) := by decide +kernel
theorem d_SD_runFilters_4 : decode c_SD_runFilters 4 = .ok (.istore 5, 2) := by decide +kernel
theorem d_SD_runFilters_6 : decode c_SD_runFilters 6 = .ok (.iload 5, 2) := by decide +kernel
theorem d_SD_runFilters_8 : decode c_SD_runFilters 8 = .ok (.aload_n 0, 1) := by decide +kernel
theorem d_SD_runFilters_9 : decode c_SD_runFilters 9 = .ok (.getfield 26, 3) := by decide +kernel
theorem d_SD_runFilters_12 : decode c_SD_runFilters 12 = .ok (.getfield 136, 3) := by decide +kernel
theorem d_SD_runFilters_15 : decode c_SD_runFilters 15 = .ok (.if_icmp .ge 87, 3) := by decide +kernel
theorem d_SD_runFilters_18 : decode c_SD_runFilters 18 = .ok (.iload 4, 2) := by decide +kernel
theorem d_SD_runFilters_20 : decode c_SD_runFilters 20 = .ok (.bipush 100, 2) := by decide +kernel
theorem d_SD_runFilters_22 : decode c_SD_runFilters 22 = .ok (.if_icmp .ge 80, 3) := by decide +kernel
theorem d_SD_runFilters_25 : decode c_SD_runFilters 25 = .ok (.aload_n 0, 1) := by decide +kernel
theorem d_SD_runFilters_26 : decode c_SD_runFilters 26 = .ok (.getfield 26, 3) := by decide +kernel
theorem d_SD_runFilters_29 : decode c_SD_runFilters 29 = .ok (.getfield 242, 3) := by decide +kernel
theorem d_SD_runFilters_32 : decode c_SD_runFilters 32 = .ok (.iload 5, 2) := by decide +kernel
theorem d_SD_runFilters_34 : decode c_SD_runFilters 34 = .ok (.iaload, 1) := by decide +kernel
theorem d_SD_runFilters_35 : decode c_SD_runFilters 35 = .ok (.istore 6, 2) := by decide +kernel
theorem d_SD_runFilters_37 : decode c_SD_runFilters 37 = .ok (.aload_n 0, 1) := by decide +kernel
theorem d_SD_runFilters_38 : decode c_SD_runFilters 38 = .ok (.getfield 26, 3) := by decide +kernel
theorem d_SD_runFilters_41 : decode c_SD_runFilters 41 = .ok (.getfield 245, 3) := by decide +kernel
theorem d_SD_runFilters_44 : decode c_SD_runFilters 44 = .ok (.iload 6, 2) := by decide +kernel
theorem d_SD_runFilters_46 : decode c_SD_runFilters 46 = .ok (.aaload, 1) := by decide +kernel
theorem d_SD_runFilters_47 : decode c_SD_runFilters 47 = .ok (.astore 7, 2) := by decide +kernel
theorem d_SD_runFilters_49 : decode c_SD_runFilters 49 = .ok (.aload 7, 2) := by decide +kernel
theorem d_SD_runFilters_51 : decode c_SD_runFilters 51 = .ok (.getfield 249, 3) := by decide +kernel
theorem d_SD_runFilters_54 : decode c_SD_runFilters 54 = .ok (.iload_n 1, 1) := by decide +kernel
theorem d_SD_runFilters_55 : decode c_SD_runFilters 55 = .ok (.if_icmp .ne 41, 3) := by decide +kernel
theorem d_SD_runFilters_58 : decode c_SD_runFilters 58 = .ok (.iload_n 1, 1) := by decide +kernel
theorem d_SD_runFilters_59 : decode c_SD_runFilters 59 = .ok (.ifCond .eq 12, 3) := by decide +kernel
theorem d_SD_runFilters_62 : decode c_SD_runFilters 62 = .ok (.aload_n 0, 1) := by decide +kernel
theorem d_SD_runFilters_63 : decode c_SD_runFilters 63 = .ok (.aload 7, 2) := by decide +kernel
theorem d_SD_runFilters_65 : decode c_SD_runFilters 65 = .ok (.invokevirtual 252, 3) := by decide +kernel
theorem d_SD_runFilters_68 : decode c_SD_runFilters 68 = .ok (.ifCond .eq 28, 3) := by decide +kernel
theorem d_SD_runFilters_71 : decode c_SD_runFilters 71 = .ok (.aload_n 0, 1) := by decide +kernel
theorem d_SD_runFilters_72 : decode c_SD_runFilters 72 = .ok (.getfield 47, 3) := by decide +kernel
theorem d_SD_runFilters_75 : decode c_SD_runFilters 75 = .ok (.iload 6, 2) := by decide +kernel
theorem d_SD_runFilters_77 : decode c_SD_runFilters 77 = .ok (.invokevirtual 256, 3) := by decide +kernel
theorem d_SD_runFilters_80 : decode c_SD_runFilters 80 = .ok (.aload 7, 2) := by decide +kernel
theorem d_SD_runFilters_82 : decode c_SD_runFilters 82 = .ok (.getfield 260, 3) := by decide +kernel
theorem d_SD_runFilters_85 : decode c_SD_runFilters 85 = .ok (.iload_n 3, 1) := by decide +kernel
theorem d_SD_runFilters_86 : decode c_SD_runFilters 86 = .ok (.if_icmp .ne 10, 3) := by decide +kernel
theorem d_SD_runFilters_89 : decode c_SD_runFilters 89 = .ok (.aload 7, 2) := by decide +kernel
theorem d_SD_runFilters_91 : decode c_SD_runFilters 91 = .ok (.getfield 263, 3) := by decide +kernel
theorem d_SD_runFilters_94 : decode c_SD_runFilters 94 = .ok (.istore 4, 2) := by decide +kernel
theorem d_SD_runFilters_96 : decode c_SD_runFilters 96 = .ok (.iinc 5 1, 3) := by decide +kernel
theorem d_SD_runFilters_99 : decode c_SD_runFilters 99 = .ok (.goto (-93), 3) := by decide +kernel
theorem d_SD_runFilters_102 : decode c_SD_runFilters 102 = .ok (.iload 4, 2) := by decide +kernel
theorem d_SD_runFilters_104 : decode c_SD_runFilters 104 = .ok (.ireturn, 1) := by decide +kernel
set_option maxHeartbeats 4000000 in
set_option maxRecDepth 100000 in
theorem sn_SD_runFilters_102 {l : Launch} {Γ : gk_G} {p : Program} {e : Env} {s : State} {m : MethodId} {args : Array Value} {below : List Frame} {meth : Method} {c : Code} (B : gk_B p s m args meth c gk_Y Γ c_SD_runFilters 8 "StageDispatcher") (hr : meth.sig.returnType = (some .int)) {ρ : Int32 × gk_M}   {x4 : Int32} {M : gk_M} (h : fn_SD_runFilters_102  x4 M = some ρ) : Gk p l e rm_SD_runFilters s m args below meth c gk_Y Γ 8 (MQ below (gk_Q gk_Y Γ (some (.int ρ.1)) ρ.2) args s rm_SD_runFilters.cells rm_SD_runFilters.slots (fun q => Γ.2.2 ≤ q)) 0 0 M 102 [none, none, none, none, some (.int x4), none, none, none] [] := by
  unfold fn_SD_runFilters_102 at h
  refine Gk_iload (x := x4) B d_SD_runFilters_102 rfl ?_
  cases h
  exact Gk_iret B hr d_SD_runFilters_104 rfl (by decide) (by decide) rfl
set_option maxHeartbeats 4000000 in
set_option maxRecDepth 100000 in
theorem sn_SD_runFilters_96 {l : Launch} {Γ : gk_G} {p : Program} {e : Env} {s : State} {m : MethodId} {args : Array Value} {below : List Frame} {meth : Method} {c : Code} (B : gk_B p s m args meth c gk_Y Γ c_SD_runFilters 8 "StageDispatcher") (hr : meth.sig.returnType = (some .int)) {ρ : Int32 × gk_M} {k6 : Option Nat → Int32 → Int32 → Int32 → Int32 → gk_M → Option (Int32 × gk_M)} (H6 : ∀ (a0 : Option Nat) (x1 : Int32) (x3 : Int32) (x4 : Int32) (x5 : Int32) (M : gk_M), k6 a0 x1 x3 x4 x5 M = some ρ → Gk p l e rm_SD_runFilters s m args below meth c gk_Y Γ 8 (MQ below (gk_Q gk_Y Γ (some (.int ρ.1)) ρ.2) args s rm_SD_runFilters.cells rm_SD_runFilters.slots (fun q => Γ.2.2 ≤ q)) 0 0 M 6 [some (va_rf a0), some (.int x1), none, some (.int x3), some (.int x4), some (.int x5), none, none] []) {a0 : Option Nat} {x1 : Int32} {x3 : Int32} {x4 : Int32} {x5 : Int32} {M : gk_M} (h : fn_SD_runFilters_96 k6 a0 x1 x3 x4 x5 M = some ρ) : Gk p l e rm_SD_runFilters s m args below meth c gk_Y Γ 8 (MQ below (gk_Q gk_Y Γ (some (.int ρ.1)) ρ.2) args s rm_SD_runFilters.cells rm_SD_runFilters.slots (fun q => Γ.2.2 ≤ q)) 0 0 M 96 [some (va_rf a0), some (.int x1), none, some (.int x3), some (.int x4), some (.int x5), none, none] [] := by
  unfold fn_SD_runFilters_96 at h
  refine Gk_iinc (x := x5) (v := (x5 + 1)) (L' := [some (va_rf a0), some (.int x1), none, some (.int x3), some (.int x4), some (.int (x5 + 1)), none, none]) B d_SD_runFilters_96 rfl (congrArg (fun z => x5 + z) (by decide : Int32.ofInt 1 = 1)) (by decide) (gk_c1_i rfl) rfl ?_
  refine Gk_goto (tgt := 6) B d_SD_runFilters_99 rfl ?_
  exact H6 a0 x1 x3 x4 (x5 + 1) M h
set_option maxHeartbeats 4000000 in
set_option maxRecDepth 100000 in
theorem sn_SD_runFilters_71 {l : Launch} {Γ : gk_G} {p : Program} {e : Env} {s : State} {m : MethodId} {args : Array Value} {below : List Frame} {meth : Method} {c : Code} (B : gk_B p s m args meth c gk_Y Γ c_SD_runFilters 8 "StageDispatcher") (hr : meth.sig.returnType = (some .int)) {ρ : Int32 × gk_M} {k6 : Option Nat → Int32 → Int32 → Int32 → Int32 → gk_M → Option (Int32 × gk_M)} (H6 : ∀ (a0 : Option Nat) (x1 : Int32) (x3 : Int32) (x4 : Int32) (x5 : Int32) (M : gk_M), k6 a0 x1 x3 x4 x5 M = some ρ → Gk p l e rm_SD_runFilters s m args below meth c gk_Y Γ 8 (MQ below (gk_Q gk_Y Γ (some (.int ρ.1)) ρ.2) args s rm_SD_runFilters.cells rm_SD_runFilters.slots (fun q => Γ.2.2 ≤ q)) 0 0 M 6 [some (va_rf a0), some (.int x1), none, some (.int x3), some (.int x4), some (.int x5), none, none] []) {a0 : Option Nat} {x1 : Int32} {x3 : Int32} {x4 : Int32} {x5 : Int32} {x6 : Int32} {a7 : Option Nat} {M : gk_M} (h : fn_SD_runFilters_71 k6 a0 x1 x3 x4 x5 x6 a7 M = some ρ) : Gk p l e rm_SD_runFilters s m args below meth c gk_Y Γ 8 (MQ below (gk_Q gk_Y Γ (some (.int ρ.1)) ρ.2) args s rm_SD_runFilters.cells rm_SD_runFilters.slots (fun q => Γ.2.2 ≤ q)) 0 0 M 71 [some (va_rf a0), some (.int x1), none, some (.int x3), some (.int x4), some (.int x5), some (.int x6), some (va_rf a7)] [] := by
  unfold fn_SD_runFilters_71 at h
  refine Gk_aload_n (i := 0) (r := a0) B d_SD_runFilters_71 rfl rfl ?_
  obtain ⟨v72, h72, h⟩ := gk_bind h
  refine Gk_getR (j := 5) B d_SD_runFilters_72 in_SD cl_SD (by decide) tw_283 rfl h72 ?_
  refine Gk_iload (x := x6) B d_SD_runFilters_75 rfl ?_
  obtain ⟨o77, g77, h⟩ := gk_bind h
  obtain ⟨w77, h77, h⟩ := gk_bind h
  refine Gk_callV (As := [.int x6]) (rest := []) (st1 := []) (k1 := 0) (n1 := 0) B gk_hG d_SD_runFilters_77 (sn_Outcome_addRan h77) g77 cl_Outcome tw_563 tw_560 tw_561 tw_562 tw_47 nm_Outcome_addRan rfl (by decide) ⟨by decide, by decide⟩ ⟨by decide, by decide⟩ rfl rfl rfl rfl ?_
  refine Gk_aload (r := a7) B d_SD_runFilters_80 rfl ?_
  obtain ⟨v82, h82, h⟩ := gk_bind h
  refine Gk_getIN (j := 3) B d_SD_runFilters_82 in_Filter cl_Filter (by decide) nw_490 rfl h82 ?_
  refine Gk_iload_n (i := 3) (x := x3) B d_SD_runFilters_85 rfl rfl ?_
  refine Gk_icmp_ne (tgt := 96) B d_SD_runFilters_86 rfl (fun c86 => ?_) (fun c86 => ?_)
  · rw [if_neg c86] at h
    refine Gk_weak [true, true, false, true, true, true, false, false] (L' := [some (va_rf a0), some (.int x1), none, some (.int x3), some (.int x4), some (.int x5), none, none]) rfl ?_
    exact sn_SD_runFilters_96 B hr H6 h
  rw [if_pos c86] at h
  refine Gk_aload (r := a7) B d_SD_runFilters_89 rfl ?_
  obtain ⟨v91, h91, h⟩ := gk_bind h
  refine Gk_getIN (j := 4) B d_SD_runFilters_91 in_Filter cl_Filter (by decide) nw_492 rfl h91 ?_
  refine Gk_istore (L' := [some (va_rf a0), some (.int x1), none, some (.int x3), some (.int v91), some (.int x5), some (.int x6), some (va_rf a7)]) B d_SD_runFilters_94 (by decide) (gk_c1_i rfl) rfl ?_
  refine Gk_weak [true, true, false, true, true, true, false, false] (L' := [some (va_rf a0), some (.int x1), none, some (.int x3), some (.int v91), some (.int x5), none, none]) rfl ?_
  exact sn_SD_runFilters_96 B hr H6 h
set_option maxHeartbeats 4000000 in
set_option maxRecDepth 100000 in
theorem sn_SD_runFilters_6_bd {l : Launch} {Γ : gk_G} {p : Program} {e : Env} {s : State} {m : MethodId} {args : Array Value} {below : List Frame} {meth : Method} {c : Code} (B : gk_B p s m args meth c gk_Y Γ c_SD_runFilters 8 "StageDispatcher") (hr : meth.sig.returnType = (some .int)) {ρ : Int32 × gk_M} {k6 : Option Nat → Int32 → Int32 → Int32 → Int32 → gk_M → Option (Int32 × gk_M)} (H6 : ∀ (a0 : Option Nat) (x1 : Int32) (x3 : Int32) (x4 : Int32) (x5 : Int32) (M : gk_M), k6 a0 x1 x3 x4 x5 M = some ρ → Gk p l e rm_SD_runFilters s m args below meth c gk_Y Γ 8 (MQ below (gk_Q gk_Y Γ (some (.int ρ.1)) ρ.2) args s rm_SD_runFilters.cells rm_SD_runFilters.slots (fun q => Γ.2.2 ≤ q)) 0 0 M 6 [some (va_rf a0), some (.int x1), none, some (.int x3), some (.int x4), some (.int x5), none, none] []) {a0 : Option Nat} {x1 : Int32} {x3 : Int32} {x4 : Int32} {x5 : Int32} {M : gk_M} (h : fn_SD_runFilters_6_bd k6 a0 x1 x3 x4 x5 M = some ρ) : Gk p l e rm_SD_runFilters s m args below meth c gk_Y Γ 8 (MQ below (gk_Q gk_Y Γ (some (.int ρ.1)) ρ.2) args s rm_SD_runFilters.cells rm_SD_runFilters.slots (fun q => Γ.2.2 ≤ q)) 0 0 M 6 [some (va_rf a0), some (.int x1), none, some (.int x3), some (.int x4), some (.int x5), none, none] [] := by
  unfold fn_SD_runFilters_6_bd at h
  refine Gk_iload (x := x5) B d_SD_runFilters_6 rfl ?_
  refine Gk_aload_n (i := 0) (r := a0) B d_SD_runFilters_8 rfl rfl ?_
  obtain ⟨v9, h9, h⟩ := gk_bind h
  refine Gk_getR (j := 2) B d_SD_runFilters_9 in_SD cl_SD (by decide) tw_280 rfl h9 ?_
  obtain ⟨v12, h12, h⟩ := gk_bind h
  refine Gk_getI (j := 3) B d_SD_runFilters_12 in_FilterChain cl_FilterChain (by decide) tw_141 rfl h12 ?_
  refine Gk_icmp_ge (tgt := 102) B d_SD_runFilters_15 rfl (fun c15 => ?_) (fun c15 => ?_)
  · rw [if_pos c15] at h
    refine Gk_weak [false, false, false, false, true, false, false, false] (L' := [none, none, none, none, some (.int x4), none, none, none]) rfl ?_
    exact sn_SD_runFilters_102 B hr h
  rw [if_neg c15] at h
  refine Gk_iload (x := x4) B d_SD_runFilters_18 rfl ?_
  refine Gk_bipush (v := 100) B d_SD_runFilters_20 (by decide) ?_
  refine Gk_icmp_ge (tgt := 102) B d_SD_runFilters_22 rfl (fun c22 => ?_) (fun c22 => ?_)
  · rw [if_pos c22] at h
    refine Gk_weak [false, false, false, false, true, false, false, false] (L' := [none, none, none, none, some (.int x4), none, none, none]) rfl ?_
    exact sn_SD_runFilters_102 B hr h
  rw [if_neg c22] at h
  refine Gk_aload_n (i := 0) (r := a0) B d_SD_runFilters_25 rfl rfl ?_
  obtain ⟨v26, h26, h⟩ := gk_bind h
  refine Gk_getR (j := 2) B d_SD_runFilters_26 in_SD cl_SD (by decide) tw_280 rfl h26 ?_
  obtain ⟨v29, h29, h⟩ := gk_bind h
  refine Gk_getR (j := 1) B d_SD_runFilters_29 in_FilterChain cl_FilterChain (by decide) tw_137 rfl h29 ?_
  refine Gk_iload (x := x5) B d_SD_runFilters_32 rfl ?_
  obtain ⟨v34, h34, h⟩ := gk_bind h
  refine Gk_iaload B d_SD_runFilters_34 ty_0 h34 ?_
  refine Gk_istore (L' := [some (va_rf a0), some (.int x1), none, some (.int x3), some (.int x4), some (.int x5), some (.int v34), none]) B d_SD_runFilters_35 (by decide) (gk_c1_i rfl) rfl ?_
  refine Gk_aload_n (i := 0) (r := a0) B d_SD_runFilters_37 rfl rfl ?_
  obtain ⟨v38, h38, h⟩ := gk_bind h
  refine Gk_getR (j := 2) B d_SD_runFilters_38 in_SD cl_SD (by decide) tw_280 rfl h38 ?_
  obtain ⟨v41, h41, h⟩ := gk_bind h
  refine Gk_getR (j := 0) B d_SD_runFilters_41 in_FilterChain cl_FilterChain (by decide) tw_135 rfl h41 ?_
  refine Gk_iload (x := v34) B d_SD_runFilters_44 rfl ?_
  obtain ⟨v46, h46, h⟩ := gk_bind h
  refine Gk_aaload B d_SD_runFilters_46 ty_6 h46 ?_
  refine Gk_astore (L' := [some (va_rf a0), some (.int x1), none, some (.int x3), some (.int x4), some (.int x5), some (.int v34), some (va_rf v46)]) B d_SD_runFilters_47 (by decide) (gk_c1_i rfl) rfl ?_
  refine Gk_aload (r := v46) B d_SD_runFilters_49 rfl ?_
  obtain ⟨v51, h51, h⟩ := gk_bind h
  refine Gk_getIN (j := 2) B d_SD_runFilters_51 in_Filter cl_Filter (by decide) nw_488 rfl h51 ?_
  refine Gk_iload_n (i := 1) (x := x1) B d_SD_runFilters_54 rfl rfl ?_
  refine Gk_icmp_ne (tgt := 96) B d_SD_runFilters_55 rfl (fun c55 => ?_) (fun c55 => ?_)
  · rw [if_neg c55] at h
    refine Gk_weak [true, true, false, true, true, true, false, false] (L' := [some (va_rf a0), some (.int x1), none, some (.int x3), some (.int x4), some (.int x5), none, none]) rfl ?_
    exact sn_SD_runFilters_96 B hr H6 h
  rw [if_pos c55] at h
  refine Gk_iload_n (i := 1) (x := x1) B d_SD_runFilters_58 rfl rfl ?_
  refine Gk_if_eq (tgt := 71) B d_SD_runFilters_59 rfl (fun c59 => ?_) (fun c59 => ?_)
  · rw [if_pos c59] at h
    exact sn_SD_runFilters_71 B hr H6 h
  rw [if_neg c59] at h
  refine Gk_aload_n (i := 0) (r := a0) B d_SD_runFilters_62 rfl rfl ?_
  refine Gk_aload (r := v46) B d_SD_runFilters_63 rfl ?_
  obtain ⟨o65, g65, h⟩ := gk_bind h
  obtain ⟨w65, h65, h⟩ := gk_bind h
  refine Gk_callV (As := [va_rf v46]) (rest := []) (st1 := [.int w65.1]) (k1 := 0) (n1 := 0) B gk_hG d_SD_runFilters_65 (sn_SD_isBound h65) g65 cl_SD tw_559 tw_556 tw_558 tw_2 tw_40 nm_SD_isBound rfl (by decide) ⟨by decide, by decide⟩ ⟨by decide, by decide⟩ rfl rfl rfl rfl ?_
  refine Gk_if_eq (tgt := 96) B d_SD_runFilters_68 rfl (fun c68 => ?_) (fun c68 => ?_)
  · rw [if_pos c68] at h
    refine Gk_weak [true, true, false, true, true, true, false, false] (L' := [some (va_rf a0), some (.int x1), none, some (.int x3), some (.int x4), some (.int x5), none, none]) rfl ?_
    exact sn_SD_runFilters_96 B hr H6 h
  rw [if_neg c68] at h
  exact sn_SD_runFilters_71 B hr H6 h
set_option maxHeartbeats 4000000 in
set_option maxRecDepth 100000 in
theorem sn_SD_runFilters_6 {l : Launch} {Γ : gk_G} {p : Program} {e : Env} {s : State} {m : MethodId} {args : Array Value} {below : List Frame} {meth : Method} {c : Code} (B : gk_B p s m args meth c gk_Y Γ c_SD_runFilters 8 "StageDispatcher") (hr : meth.sig.returnType = (some .int)) {ρ : Int32 × gk_M}   {a0 : Option Nat} {x1 : Int32} {x3 : Int32} {x4 : Int32} {x5 : Int32} {M : gk_M} (h : fn_SD_runFilters_6  a0 x1 x3 x4 x5 M = some ρ) : Gk p l e rm_SD_runFilters s m args below meth c gk_Y Γ 8 (MQ below (gk_Q gk_Y Γ (some (.int ρ.1)) ρ.2) args s rm_SD_runFilters.cells rm_SD_runFilters.slots (fun q => Γ.2.2 ≤ q)) 0 0 M 6 [some (va_rf a0), some (.int x1), none, some (.int x3), some (.int x4), some (.int x5), none, none] [] := by
  unfold fn_SD_runFilters_6 at h
  exact gk_loop_sound (α := Option Nat × Int32 × Int32 × Int32 × Int32 × gk_M) (P := fun a => Gk p l e rm_SD_runFilters s m args below meth c gk_Y Γ 8 (MQ below (gk_Q gk_Y Γ (some (.int ρ.1)) ρ.2) args s rm_SD_runFilters.cells rm_SD_runFilters.slots (fun q => Γ.2.2 ≤ q)) 0 0 a.2.2.2.2.2 6 [some (va_rf a.1), some (.int a.2.1), none, some (.int a.2.2.1), some (.int a.2.2.2.1), some (.int a.2.2.2.2.1), none, none] []) (fun kk a Hk hb => sn_SD_runFilters_6_bd B hr (fun a0 x1 x3 x4 x5 M hh => Hk (a0, x1, x3, x4, x5, M) hh) hb) _ _ h
set_option maxHeartbeats 4000000 in
set_option maxRecDepth 100000 in
theorem sn_SD_runFilters_0 {l : Launch} {Γ : gk_G} {p : Program} {e : Env} {s : State} {m : MethodId} {args : Array Value} {below : List Frame} {meth : Method} {c : Code} (B : gk_B p s m args meth c gk_Y Γ c_SD_runFilters 8 "StageDispatcher") (hr : meth.sig.returnType = (some .int)) {ρ : Int32 × gk_M}   {a0 : Option Nat} {x1 : Int32} {x2 : Int32} {x3 : Int32} {M : gk_M} (h : fn_SD_runFilters  a0 x1 x2 x3 M = some ρ) : Gk p l e rm_SD_runFilters s m args below meth c gk_Y Γ 8 (MQ below (gk_Q gk_Y Γ (some (.int ρ.1)) ρ.2) args s rm_SD_runFilters.cells rm_SD_runFilters.slots (fun q => Γ.2.2 ≤ q)) 0 0 M 0 [some (va_rf a0), some (.int x1), some (.int x2), some (.int x3), none, none, none, none] [] := by
  unfold fn_SD_runFilters at h
  refine Gk_iload_n (i := 2) (x := x2) B d_SD_runFilters_0 rfl rfl ?_
  refine Gk_istore (L' := [some (va_rf a0), some (.int x1), some (.int x2), some (.int x3), some (.int x2), none, none, none]) B d_SD_runFilters_1 (by decide) (gk_c1_i rfl) rfl ?_
  refine Gk_iconst (v := 0) B d_SD_runFilters_3 (by decide) ?_
  refine Gk_istore (L' := [some (va_rf a0), some (.int x1), some (.int x2), some (.int x3), some (.int x2), some (.int 0), none, none]) B d_SD_runFilters_4 (by decide) (gk_c1_i rfl) rfl ?_
  refine Gk_weak [true, true, false, true, true, true, false, false] (L' := [some (va_rf a0), some (.int x1), none, some (.int x3), some (.int x2), some (.int 0), none, none]) rfl ?_
  exact sn_SD_runFilters_6 B hr h
theorem sn_SD_runFilters {l : Launch} {Γ : gk_G} {a0 : Option Nat} {x1 : Int32} {x2 : Int32} {x3 : Int32} {M : gk_M} {ρ : Int32 × gk_M} (h : fn_SD_runFilters a0 x1 x2 x3 M = some ρ) : gk_Met l gk_Y Γ y_SD_runFilters (.code y_SD_runFilters c_SD_runFilters 8 (some .int) :: gk_Y.2.2.2) rm_SD_runFilters [va_rf a0, .int x1, .int x2, .int x3] M (some (.int ρ.1)) ρ.2 :=
  gk_start (by decide) (by simp [lg_sl, gk_rc, gk_ic, gk_jc]) [some (va_rf a0), some (.int x1), some (.int x2), some (.int x3), none, none, none, none] (by simp [gk_as, lv_args, gk_rc, gk_ic, gk_jc]) (fun p e s m args below meth c B hr hin => sn_SD_runFilters_0 B hr h)
theorem d_Template_isHeavierThan_0 : decode c_Template_isHeavierThan 0 = .ok (.aload_n 0, 1) := by decide +kernel
theorem d_Template_isHeavierThan_1 : decode c_Template_isHeavierThan 1 = .ok (.getfield 41, 3) := by decide +kernel
theorem d_Template_isHeavierThan_4 : decode c_Template_isHeavierThan 4 = .ok (.aload_n 1, 1) := by decide +kernel
theorem d_Template_isHeavierThan_5 : decode c_Template_isHeavierThan 5 = .ok (.getfield 41, 3) := by decide +kernel
theorem d_Template_isHeavierThan_8 : decode c_Template_isHeavierThan 8 = .ok (.if_icmp .eq 20, 3) := by decide +kernel
theorem d_Template_isHeavierThan_11 : decode c_Template_isHeavierThan 11 = .ok (.aload_n 0, 1) := by decide +kernel
theorem d_Template_isHeavierThan_12 : decode c_Template_isHeavierThan 12 = .ok (.getfield 41, 3) := by decide +kernel
theorem d_Template_isHeavierThan_15 : decode c_Template_isHeavierThan 15 = .ok (.aload_n 1, 1) := by decide +kernel
theorem d_Template_isHeavierThan_16 : decode c_Template_isHeavierThan 16 = .ok (.getfield 41, 3) := by decide +kernel
theorem d_Template_isHeavierThan_19 : decode c_Template_isHeavierThan 19 = .ok (.if_icmp .le 7, 3) := by decide +kernel
theorem d_Template_isHeavierThan_22 : decode c_Template_isHeavierThan 22 = .ok (.iconst 1, 1) := by decide +kernel
theorem d_Template_isHeavierThan_23 : decode c_Template_isHeavierThan 23 = .ok (.goto 4, 3) := by decide +kernel
theorem d_Template_isHeavierThan_26 : decode c_Template_isHeavierThan 26 = .ok (.iconst 0, 1) := by decide +kernel
theorem d_Template_isHeavierThan_27 : decode c_Template_isHeavierThan 27 = .ok (.ireturn, 1) := by decide +kernel
theorem d_Template_isHeavierThan_28 : decode c_Template_isHeavierThan 28 = .ok (.aload_n 0, 1) := by decide +kernel
theorem d_Template_isHeavierThan_29 : decode c_Template_isHeavierThan 29 = .ok (.getfield 44, 3) := by decide +kernel
theorem d_Template_isHeavierThan_32 : decode c_Template_isHeavierThan 32 = .ok (.aload_n 1, 1) := by decide +kernel
theorem d_Template_isHeavierThan_33 : decode c_Template_isHeavierThan 33 = .ok (.getfield 44, 3) := by decide +kernel
theorem d_Template_isHeavierThan_36 : decode c_Template_isHeavierThan 36 = .ok (.if_icmp .eq 20, 3) := by decide +kernel
theorem d_Template_isHeavierThan_39 : decode c_Template_isHeavierThan 39 = .ok (.aload_n 0, 1) := by decide +kernel
theorem d_Template_isHeavierThan_40 : decode c_Template_isHeavierThan 40 = .ok (.getfield 44, 3) := by decide +kernel
theorem d_Template_isHeavierThan_43 : decode c_Template_isHeavierThan 43 = .ok (.aload_n 1, 1) := by decide +kernel
theorem d_Template_isHeavierThan_44 : decode c_Template_isHeavierThan 44 = .ok (.getfield 44, 3) := by decide +kernel
theorem d_Template_isHeavierThan_47 : decode c_Template_isHeavierThan 47 = .ok (.if_icmp .le 7, 3) := by decide +kernel
theorem d_Template_isHeavierThan_50 : decode c_Template_isHeavierThan 50 = .ok (.iconst 1, 1) := by decide +kernel
theorem d_Template_isHeavierThan_51 : decode c_Template_isHeavierThan 51 = .ok (.goto 4, 3) := by decide +kernel
theorem d_Template_isHeavierThan_54 : decode c_Template_isHeavierThan 54 = .ok (.iconst 0, 1) := by decide +kernel
theorem d_Template_isHeavierThan_55 : decode c_Template_isHeavierThan 55 = .ok (.ireturn, 1) := by decide +kernel
theorem d_Template_isHeavierThan_56 : decode c_Template_isHeavierThan 56 = .ok (.aload_n 0, 1) := by decide +kernel
theorem d_Template_isHeavierThan_57 : decode c_Template_isHeavierThan 57 = .ok (.getfield 47, 3) := by decide +kernel
theorem d_Template_isHeavierThan_60 : decode c_Template_isHeavierThan 60 = .ok (.aload_n 1, 1) := by decide +kernel
theorem d_Template_isHeavierThan_61 : decode c_Template_isHeavierThan 61 = .ok (.getfield 47, 3) := by decide +kernel
theorem d_Template_isHeavierThan_64 : decode c_Template_isHeavierThan 64 = .ok (.if_icmp .le 7, 3) := by decide +kernel
theorem d_Template_isHeavierThan_67 : decode c_Template_isHeavierThan 67 = .ok (.iconst 1, 1) := by decide +kernel
theorem d_Template_isHeavierThan_68 : decode c_Template_isHeavierThan 68 = .ok (.goto 4, 3) := by decide +kernel
theorem d_Template_isHeavierThan_71 : decode c_Template_isHeavierThan 71 = .ok (.iconst 0, 1) := by decide +kernel
theorem d_Template_isHeavierThan_72 : decode c_Template_isHeavierThan 72 = .ok (.ireturn, 1) := by decide +kernel
set_option maxHeartbeats 4000000 in
set_option maxRecDepth 100000 in
theorem sn_Template_isHeavierThan_0 {l : Launch} {Γ : gk_G} {p : Program} {e : Env} {s : State} {m : MethodId} {args : Array Value} {below : List Frame} {meth : Method} {c : Code} (B : gk_B p s m args meth c gk_Y Γ c_Template_isHeavierThan 2 "StageDispatcher$Template") (hr : meth.sig.returnType = (some .boolean)) {ρ : Int32 × gk_M}   {a0 : Option Nat} {a1 : Option Nat} {M : gk_M} (h : fn_Template_isHeavierThan  a0 a1 M = some ρ) : Gk p l e rm_Template_isHeavierThan s m args below meth c gk_Y Γ 2 (MQ below (gk_Q gk_Y Γ (some (.int ρ.1)) ρ.2) args s rm_Template_isHeavierThan.cells rm_Template_isHeavierThan.slots (fun q => Γ.2.2 ≤ q)) 0 0 M 0 [some (va_rf a0), some (va_rf a1)] [] := by
  unfold fn_Template_isHeavierThan at h
  refine Gk_aload_n (i := 0) (r := a0) B d_Template_isHeavierThan_0 rfl rfl ?_
  obtain ⟨v1, h1, h⟩ := gk_bind h
  refine Gk_getI (j := 2) B d_Template_isHeavierThan_1 in_Template cl_Template (by decide) tw_341 rfl h1 ?_
  refine Gk_aload_n (i := 1) (r := a1) B d_Template_isHeavierThan_4 rfl rfl ?_
  obtain ⟨v5, h5, h⟩ := gk_bind h
  refine Gk_getI (j := 2) B d_Template_isHeavierThan_5 in_Template cl_Template (by decide) tw_341 rfl h5 ?_
  refine Gk_icmp_eq (tgt := 28) B d_Template_isHeavierThan_8 rfl (fun c8 => ?_) (fun c8 => ?_)
  · rw [if_pos c8] at h
    refine Gk_aload_n (i := 0) (r := a0) B d_Template_isHeavierThan_28 rfl rfl ?_
    obtain ⟨v29, h29, h⟩ := gk_bind h
    refine Gk_getI (j := 3) B d_Template_isHeavierThan_29 in_Template cl_Template (by decide) tw_342 rfl h29 ?_
    refine Gk_aload_n (i := 1) (r := a1) B d_Template_isHeavierThan_32 rfl rfl ?_
    obtain ⟨v33, h33, h⟩ := gk_bind h
    refine Gk_getI (j := 3) B d_Template_isHeavierThan_33 in_Template cl_Template (by decide) tw_342 rfl h33 ?_
    refine Gk_icmp_eq (tgt := 56) B d_Template_isHeavierThan_36 rfl (fun c36 => ?_) (fun c36 => ?_)
    · rw [if_pos c36] at h
      refine Gk_aload_n (i := 0) (r := a0) B d_Template_isHeavierThan_56 rfl rfl ?_
      obtain ⟨v57, h57, h⟩ := gk_bind h
      refine Gk_getI (j := 4) B d_Template_isHeavierThan_57 in_Template cl_Template (by decide) tw_343 rfl h57 ?_
      refine Gk_aload_n (i := 1) (r := a1) B d_Template_isHeavierThan_60 rfl rfl ?_
      obtain ⟨v61, h61, h⟩ := gk_bind h
      refine Gk_getI (j := 4) B d_Template_isHeavierThan_61 in_Template cl_Template (by decide) tw_343 rfl h61 ?_
      refine Gk_icmp_le (tgt := 71) B d_Template_isHeavierThan_64 rfl (fun c64 => ?_) (fun c64 => ?_)
      · rw [if_pos c64] at h
        refine Gk_iconst (v := 0) B d_Template_isHeavierThan_71 (by decide) ?_
        obtain ⟨z, hz, h⟩ := gk_bind h
        obtain ⟨hz1, hz2⟩ := gk_z_eq hz
        cases h
        subst hz1
        exact Gk_iret B hr d_Template_isHeavierThan_72 (gk_nz hz2) (by decide) (by decide) rfl
      rw [if_neg c64] at h
      refine Gk_iconst (v := 1) B d_Template_isHeavierThan_67 (by decide) ?_
      refine Gk_goto (tgt := 72) B d_Template_isHeavierThan_68 rfl ?_
      obtain ⟨z, hz, h⟩ := gk_bind h
      obtain ⟨hz1, hz2⟩ := gk_z_eq hz
      cases h
      subst hz1
      exact Gk_iret B hr d_Template_isHeavierThan_72 (gk_nz hz2) (by decide) (by decide) rfl
    rw [if_neg c36] at h
    refine Gk_aload_n (i := 0) (r := a0) B d_Template_isHeavierThan_39 rfl rfl ?_
    obtain ⟨v40, h40, h⟩ := gk_bind h
    refine Gk_getI (j := 3) B d_Template_isHeavierThan_40 in_Template cl_Template (by decide) tw_342 rfl h40 ?_
    refine Gk_aload_n (i := 1) (r := a1) B d_Template_isHeavierThan_43 rfl rfl ?_
    obtain ⟨v44, h44, h⟩ := gk_bind h
    refine Gk_getI (j := 3) B d_Template_isHeavierThan_44 in_Template cl_Template (by decide) tw_342 rfl h44 ?_
    refine Gk_icmp_le (tgt := 54) B d_Template_isHeavierThan_47 rfl (fun c47 => ?_) (fun c47 => ?_)
    · rw [if_pos c47] at h
      refine Gk_iconst (v := 0) B d_Template_isHeavierThan_54 (by decide) ?_
      obtain ⟨z, hz, h⟩ := gk_bind h
      obtain ⟨hz1, hz2⟩ := gk_z_eq hz
      cases h
      subst hz1
      exact Gk_iret B hr d_Template_isHeavierThan_55 (gk_nz hz2) (by decide) (by decide) rfl
    rw [if_neg c47] at h
    refine Gk_iconst (v := 1) B d_Template_isHeavierThan_50 (by decide) ?_
    refine Gk_goto (tgt := 55) B d_Template_isHeavierThan_51 rfl ?_
    obtain ⟨z, hz, h⟩ := gk_bind h
    obtain ⟨hz1, hz2⟩ := gk_z_eq hz
    cases h
    subst hz1
    exact Gk_iret B hr d_Template_isHeavierThan_55 (gk_nz hz2) (by decide) (by decide) rfl
  rw [if_neg c8] at h
  refine Gk_aload_n (i := 0) (r := a0) B d_Template_isHeavierThan_11 rfl rfl ?_
  obtain ⟨v12, h12, h⟩ := gk_bind h
  refine Gk_getI (j := 2) B d_Template_isHeavierThan_12 in_Template cl_Template (by decide) tw_341 rfl h12 ?_
  refine Gk_aload_n (i := 1) (r := a1) B d_Template_isHeavierThan_15 rfl rfl ?_
  obtain ⟨v16, h16, h⟩ := gk_bind h
  refine Gk_getI (j := 2) B d_Template_isHeavierThan_16 in_Template cl_Template (by decide) tw_341 rfl h16 ?_
  refine Gk_icmp_le (tgt := 26) B d_Template_isHeavierThan_19 rfl (fun c19 => ?_) (fun c19 => ?_)
  · rw [if_pos c19] at h
    refine Gk_iconst (v := 0) B d_Template_isHeavierThan_26 (by decide) ?_
    obtain ⟨z, hz, h⟩ := gk_bind h
    obtain ⟨hz1, hz2⟩ := gk_z_eq hz
    cases h
    subst hz1
    exact Gk_iret B hr d_Template_isHeavierThan_27 (gk_nz hz2) (by decide) (by decide) rfl
  rw [if_neg c19] at h
  refine Gk_iconst (v := 1) B d_Template_isHeavierThan_22 (by decide) ?_
  refine Gk_goto (tgt := 27) B d_Template_isHeavierThan_23 rfl ?_
  obtain ⟨z, hz, h⟩ := gk_bind h
  obtain ⟨hz1, hz2⟩ := gk_z_eq hz
  cases h
  subst hz1
  exact Gk_iret B hr d_Template_isHeavierThan_27 (gk_nz hz2) (by decide) (by decide) rfl
theorem sn_Template_isHeavierThan {l : Launch} {Γ : gk_G} {a0 : Option Nat} {a1 : Option Nat} {M : gk_M} {ρ : Int32 × gk_M} (h : fn_Template_isHeavierThan a0 a1 M = some ρ) : gk_Met l gk_Y Γ y_Template_isHeavierThan (.code y_Template_isHeavierThan c_Template_isHeavierThan 2 (some .boolean) :: gk_Y.2.2.2) rm_Template_isHeavierThan [va_rf a0, va_rf a1] M (some (.int ρ.1)) ρ.2 :=
  gk_start (by decide) (by simp [lg_sl, gk_rc, gk_ic, gk_jc]) [some (va_rf a0), some (va_rf a1)] (by simp [gk_as, lv_args, gk_rc, gk_ic, gk_jc]) (fun p e s m args below meth c B hr hin => sn_Template_isHeavierThan_0 B hr h)
theorem d_Fit_mayHold_0 : decode c_Fit_mayHold 0 = .ok (.iload_n 0, 1) := by decide +kernel
theorem d_Fit_mayHold_1 : decode c_Fit_mayHold 1 = .ok (.tableswitch 59 1 3 #[27, 39, 57], 27) := by decide +kernel
theorem d_Fit_mayHold_28 : decode c_Fit_mayHold 28 = .ok (.iload_n 1, 1) := by decide +kernel
theorem d_Fit_mayHold_29 : decode c_Fit_mayHold 29 = .ok (.bipush 47, 2) := by decide +kernel
theorem d_Fit_mayHold_31 : decode c_Fit_mayHold 31 = .ok (.if_icmp .eq 7, 3) := by decide +kernel
theorem d_Fit_mayHold_34 : decode c_Fit_mayHold 34 = .ok (.iconst 1, 1) := by decide +kernel
theorem d_Fit_mayHold_35 : decode c_Fit_mayHold 35 = .ok (.goto 4, 3) := by decide +kernel
theorem d_Fit_mayHold_38 : decode c_Fit_mayHold 38 = .ok (.iconst 0, 1) := by decide +kernel
theorem d_Fit_mayHold_39 : decode c_Fit_mayHold 39 = .ok (.ireturn, 1) := by decide +kernel
theorem d_Fit_mayHold_40 : decode c_Fit_mayHold 40 = .ok (.iload_n 1, 1) := by decide +kernel
theorem d_Fit_mayHold_41 : decode c_Fit_mayHold 41 = .ok (.bipush 48, 2) := by decide +kernel
theorem d_Fit_mayHold_43 : decode c_Fit_mayHold 43 = .ok (.if_icmp .lt 13, 3) := by decide +kernel
theorem d_Fit_mayHold_46 : decode c_Fit_mayHold 46 = .ok (.iload_n 1, 1) := by decide +kernel
theorem d_Fit_mayHold_47 : decode c_Fit_mayHold 47 = .ok (.bipush 57, 2) := by decide +kernel
theorem d_Fit_mayHold_49 : decode c_Fit_mayHold 49 = .ok (.if_icmp .gt 7, 3) := by decide +kernel
theorem d_Fit_mayHold_52 : decode c_Fit_mayHold 52 = .ok (.iconst 1, 1) := by decide +kernel
theorem d_Fit_mayHold_53 : decode c_Fit_mayHold 53 = .ok (.goto 4, 3) := by decide +kernel
theorem d_Fit_mayHold_56 : decode c_Fit_mayHold 56 = .ok (.iconst 0, 1) := by decide +kernel
theorem d_Fit_mayHold_57 : decode c_Fit_mayHold 57 = .ok (.ireturn, 1) := by decide +kernel
theorem d_Fit_mayHold_58 : decode c_Fit_mayHold 58 = .ok (.iconst 1, 1) := by decide +kernel
theorem d_Fit_mayHold_59 : decode c_Fit_mayHold 59 = .ok (.ireturn, 1) := by decide +kernel
theorem d_Fit_mayHold_60 : decode c_Fit_mayHold 60 = .ok (.iload_n 1, 1) := by decide +kernel
theorem d_Fit_mayHold_61 : decode c_Fit_mayHold 61 = .ok (.iload_n 0, 1) := by decide +kernel
theorem d_Fit_mayHold_62 : decode c_Fit_mayHold 62 = .ok (.if_icmp .ne 7, 3) := by decide +kernel
theorem d_Fit_mayHold_65 : decode c_Fit_mayHold 65 = .ok (.iconst 1, 1) := by decide +kernel
theorem d_Fit_mayHold_66 : decode c_Fit_mayHold 66 = .ok (.goto 4, 3) := by decide +kernel
theorem d_Fit_mayHold_69 : decode c_Fit_mayHold 69 = .ok (.iconst 0, 1) := by decide +kernel
theorem d_Fit_mayHold_70 : decode c_Fit_mayHold 70 = .ok (.ireturn, 1) := by decide +kernel
set_option maxHeartbeats 4000000 in
set_option maxRecDepth 100000 in
theorem sn_Fit_mayHold_56 {l : Launch} {Γ : gk_G} {p : Program} {e : Env} {s : State} {m : MethodId} {args : Array Value} {below : List Frame} {meth : Method} {c : Code} (B : gk_B p s m args meth c gk_Y Γ c_Fit_mayHold 2 "StageDispatcher$Fit") (hr : meth.sig.returnType = (some .boolean)) {ρ : Int32 × gk_M}    {M : gk_M} (h : fn_Fit_mayHold_56   M = some ρ) : Gk p l e rm_Fit_mayHold s m args below meth c gk_Y Γ 2 (MQ below (gk_Q gk_Y Γ (some (.int ρ.1)) ρ.2) args s rm_Fit_mayHold.cells rm_Fit_mayHold.slots (fun q => Γ.2.2 ≤ q)) 0 0 M 56 [none, none] [] := by
  unfold fn_Fit_mayHold_56 at h
  refine Gk_iconst (v := 0) B d_Fit_mayHold_56 (by decide) ?_
  obtain ⟨z, hz, h⟩ := gk_bind h
  obtain ⟨hz1, hz2⟩ := gk_z_eq hz
  cases h
  subst hz1
  exact Gk_iret B hr d_Fit_mayHold_57 (gk_nz hz2) (by decide) (by decide) rfl
set_option maxHeartbeats 4000000 in
set_option maxRecDepth 100000 in
theorem sn_Fit_mayHold_0 {l : Launch} {Γ : gk_G} {p : Program} {e : Env} {s : State} {m : MethodId} {args : Array Value} {below : List Frame} {meth : Method} {c : Code} (B : gk_B p s m args meth c gk_Y Γ c_Fit_mayHold 2 "StageDispatcher$Fit") (hr : meth.sig.returnType = (some .boolean)) {ρ : Int32 × gk_M}   {x0 : Int32} {x1 : Int32} {M : gk_M} (h : fn_Fit_mayHold  x0 x1 M = some ρ) : Gk p l e rm_Fit_mayHold s m args below meth c gk_Y Γ 2 (MQ below (gk_Q gk_Y Γ (some (.int ρ.1)) ρ.2) args s rm_Fit_mayHold.cells rm_Fit_mayHold.slots (fun q => Γ.2.2 ≤ q)) 0 0 M 0 [some (.int x0), some (.int x1)] [] := by
  unfold fn_Fit_mayHold at h
  refine Gk_iload_n (i := 0) (x := x0) B d_Fit_mayHold_0 rfl rfl ?_
  by_cases c1_0 : x0 = 1
  · rw [if_pos c1_0] at h
    refine Gk_tabIn (off := 27) (tgt := 28) B d_Fit_mayHold_1 (by rw [c1_0]; decide) (by rw [c1_0]; decide) (by rw [c1_0]; rfl) rfl ?_
    refine Gk_iload_n (i := 1) (x := x1) B d_Fit_mayHold_28 rfl rfl ?_
    refine Gk_bipush (v := 47) B d_Fit_mayHold_29 (by decide) ?_
    refine Gk_icmp_eq (tgt := 38) B d_Fit_mayHold_31 rfl (fun c31 => ?_) (fun c31 => ?_)
    · rw [if_pos c31] at h
      refine Gk_iconst (v := 0) B d_Fit_mayHold_38 (by decide) ?_
      obtain ⟨z, hz, h⟩ := gk_bind h
      obtain ⟨hz1, hz2⟩ := gk_z_eq hz
      cases h
      subst hz1
      exact Gk_iret B hr d_Fit_mayHold_39 (gk_nz hz2) (by decide) (by decide) rfl
    rw [if_neg c31] at h
    refine Gk_iconst (v := 1) B d_Fit_mayHold_34 (by decide) ?_
    refine Gk_goto (tgt := 39) B d_Fit_mayHold_35 rfl ?_
    obtain ⟨z, hz, h⟩ := gk_bind h
    obtain ⟨hz1, hz2⟩ := gk_z_eq hz
    cases h
    subst hz1
    exact Gk_iret B hr d_Fit_mayHold_39 (gk_nz hz2) (by decide) (by decide) rfl
  rw [if_neg c1_0] at h
  by_cases c1_1 : x0 = 2
  · rw [if_pos c1_1] at h
    refine Gk_tabIn (off := 39) (tgt := 40) B d_Fit_mayHold_1 (by rw [c1_1]; decide) (by rw [c1_1]; decide) (by rw [c1_1]; rfl) rfl ?_
    refine Gk_iload_n (i := 1) (x := x1) B d_Fit_mayHold_40 rfl rfl ?_
    refine Gk_bipush (v := 48) B d_Fit_mayHold_41 (by decide) ?_
    refine Gk_icmp_lt (tgt := 56) B d_Fit_mayHold_43 rfl (fun c43 => ?_) (fun c43 => ?_)
    · rw [if_pos c43] at h
      refine Gk_weak [false, false] (L' := [none, none]) rfl ?_
      exact sn_Fit_mayHold_56 B hr h
    rw [if_neg c43] at h
    refine Gk_iload_n (i := 1) (x := x1) B d_Fit_mayHold_46 rfl rfl ?_
    refine Gk_bipush (v := 57) B d_Fit_mayHold_47 (by decide) ?_
    refine Gk_icmp_gt (tgt := 56) B d_Fit_mayHold_49 rfl (fun c49 => ?_) (fun c49 => ?_)
    · rw [if_pos c49] at h
      refine Gk_weak [false, false] (L' := [none, none]) rfl ?_
      exact sn_Fit_mayHold_56 B hr h
    rw [if_neg c49] at h
    refine Gk_iconst (v := 1) B d_Fit_mayHold_52 (by decide) ?_
    refine Gk_goto (tgt := 57) B d_Fit_mayHold_53 rfl ?_
    obtain ⟨z, hz, h⟩ := gk_bind h
    obtain ⟨hz1, hz2⟩ := gk_z_eq hz
    cases h
    subst hz1
    exact Gk_iret B hr d_Fit_mayHold_57 (gk_nz hz2) (by decide) (by decide) rfl
  rw [if_neg c1_1] at h
  by_cases c1_2 : x0 = 3
  · rw [if_pos c1_2] at h
    refine Gk_tabIn (off := 57) (tgt := 58) B d_Fit_mayHold_1 (by rw [c1_2]; decide) (by rw [c1_2]; decide) (by rw [c1_2]; rfl) rfl ?_
    refine Gk_iconst (v := 1) B d_Fit_mayHold_58 (by decide) ?_
    obtain ⟨z, hz, h⟩ := gk_bind h
    obtain ⟨hz1, hz2⟩ := gk_z_eq hz
    cases h
    subst hz1
    exact Gk_iret B hr d_Fit_mayHold_59 (gk_nz hz2) (by decide) (by decide) rfl
  rw [if_neg c1_2] at h
  refine Gk_tabOut (tgt := 60) B d_Fit_mayHold_1 (by have e0 := lv_neT (a := 1) c1_0 rfl; have e1 := lv_neT (a := 2) c1_1 rfl; have e2 := lv_neT (a := 3) c1_2 rfl; omega) rfl ?_
  refine Gk_iload_n (i := 1) (x := x1) B d_Fit_mayHold_60 rfl rfl ?_
  refine Gk_iload_n (i := 0) (x := x0) B d_Fit_mayHold_61 rfl rfl ?_
  refine Gk_icmp_ne (tgt := 69) B d_Fit_mayHold_62 rfl (fun c62 => ?_) (fun c62 => ?_)
  · rw [if_neg c62] at h
    refine Gk_iconst (v := 0) B d_Fit_mayHold_69 (by decide) ?_
    obtain ⟨z, hz, h⟩ := gk_bind h
    obtain ⟨hz1, hz2⟩ := gk_z_eq hz
    cases h
    subst hz1
    exact Gk_iret B hr d_Fit_mayHold_70 (gk_nz hz2) (by decide) (by decide) rfl
  rw [if_pos c62] at h
  refine Gk_iconst (v := 1) B d_Fit_mayHold_65 (by decide) ?_
  refine Gk_goto (tgt := 70) B d_Fit_mayHold_66 rfl ?_
  obtain ⟨z, hz, h⟩ := gk_bind h
  obtain ⟨hz1, hz2⟩ := gk_z_eq hz
  cases h
  subst hz1
  exact Gk_iret B hr d_Fit_mayHold_70 (gk_nz hz2) (by decide) (by decide) rfl
theorem sn_Fit_mayHold {l : Launch} {Γ : gk_G} {x0 : Int32} {x1 : Int32} {M : gk_M} {ρ : Int32 × gk_M} (h : fn_Fit_mayHold x0 x1 M = some ρ) : gk_Met l gk_Y Γ y_Fit_mayHold (.code y_Fit_mayHold c_Fit_mayHold 2 (some .boolean) :: gk_Y.2.2.2) rm_Fit_mayHold [.int x0, .int x1] M (some (.int ρ.1)) ρ.2 :=
  gk_start (by decide) (by simp [lg_sl, gk_rc, gk_ic, gk_jc]) [some (.int x0), some (.int x1)] (by simp [gk_as, lv_args, gk_rc, gk_ic, gk_jc]) (fun p e s m args below meth c B hr hin => sn_Fit_mayHold_0 B hr h)
theorem d_SD_holds_0 : decode c_SD_holds 0 = .ok (.iload_n 0, 1) := by decide +kernel
theorem d_SD_holds_1 : decode c_SD_holds 1 = .ok (.iload_n 1, 1) := by decide +kernel
theorem d_SD_holds_2 : decode c_SD_holds 2 = .ok (.ishr, 1) := by decide +kernel
theorem d_SD_holds_3 : decode c_SD_holds 3 = .ok (.iconst 1, 1) := by decide +kernel
theorem d_SD_holds_4 : decode c_SD_holds 4 = .ok (.iand, 1) := by decide +kernel
theorem d_SD_holds_5 : decode c_SD_holds 5 = .ok (.ifCond .eq 7, 3) := by decide +kernel
theorem d_SD_holds_8 : decode c_SD_holds 8 = .ok (.iconst 1, 1) := by decide +kernel
theorem d_SD_holds_9 : decode c_SD_holds 9 = .ok (.goto 4, 3) := by decide +kernel
theorem d_SD_holds_12 : decode c_SD_holds 12 = .ok (.iconst 0, 1) := by decide +kernel
theorem d_SD_holds_13 : decode c_SD_holds 13 = .ok (.ireturn, 1) := by decide +kernel
set_option maxHeartbeats 4000000 in
set_option maxRecDepth 100000 in
theorem sn_SD_holds_0 {l : Launch} {Γ : gk_G} {p : Program} {e : Env} {s : State} {m : MethodId} {args : Array Value} {below : List Frame} {meth : Method} {c : Code} (B : gk_B p s m args meth c gk_Y Γ c_SD_holds 2 "StageDispatcher") (hr : meth.sig.returnType = (some .boolean)) {ρ : Int32 × gk_M}   {x0 : Int32} {x1 : Int32} {M : gk_M} (h : fn_SD_holds  x0 x1 M = some ρ) : Gk p l e rm_SD_holds s m args below meth c gk_Y Γ 2 (MQ below (gk_Q gk_Y Γ (some (.int ρ.1)) ρ.2) args s rm_SD_holds.cells rm_SD_holds.slots (fun q => Γ.2.2 ≤ q)) 0 0 M 0 [some (.int x0), some (.int x1)] [] := by
  unfold fn_SD_holds at h
  refine Gk_iload_n (i := 0) (x := x0) B d_SD_holds_0 rfl rfl ?_
  refine Gk_iload_n (i := 1) (x := x1) B d_SD_holds_1 rfl rfl ?_
  refine Gk_ishr B d_SD_holds_2 ?_
  refine Gk_iconst (v := 1) B d_SD_holds_3 (by decide) ?_
  refine Gk_iand B d_SD_holds_4 ?_
  refine Gk_if_eq (tgt := 12) B d_SD_holds_5 rfl (fun c5 => ?_) (fun c5 => ?_)
  · rw [if_pos c5] at h
    refine Gk_iconst (v := 0) B d_SD_holds_12 (by decide) ?_
    obtain ⟨z, hz, h⟩ := gk_bind h
    obtain ⟨hz1, hz2⟩ := gk_z_eq hz
    cases h
    subst hz1
    exact Gk_iret B hr d_SD_holds_13 (gk_nz hz2) (by decide) (by decide) rfl
  rw [if_neg c5] at h
  refine Gk_iconst (v := 1) B d_SD_holds_8 (by decide) ?_
  refine Gk_goto (tgt := 13) B d_SD_holds_9 rfl ?_
  obtain ⟨z, hz, h⟩ := gk_bind h
  obtain ⟨hz1, hz2⟩ := gk_z_eq hz
  cases h
  subst hz1
  exact Gk_iret B hr d_SD_holds_13 (gk_nz hz2) (by decide) (by decide) rfl
theorem sn_SD_holds {l : Launch} {Γ : gk_G} {x0 : Int32} {x1 : Int32} {M : gk_M} {ρ : Int32 × gk_M} (h : fn_SD_holds x0 x1 M = some ρ) : gk_Met l gk_Y Γ y_SD_holds (.code y_SD_holds c_SD_holds 2 (some .boolean) :: gk_Y.2.2.2) rm_SD_holds [.int x0, .int x1] M (some (.int ρ.1)) ρ.2 :=
  gk_start (by decide) (by simp [lg_sl, gk_rc, gk_ic, gk_jc]) [some (.int x0), some (.int x1)] (by simp [gk_as, lv_args, gk_rc, gk_ic, gk_jc]) (fun p e s m args below meth c B hr hin => sn_SD_holds_0 B hr h)
theorem d_Fit_lastEnd_0 : decode c_Fit_lastEnd 0 = .ok (.iload_n 0, 1) := by decide +kernel
theorem d_Fit_lastEnd_1 : decode c_Fit_lastEnd 1 = .ok (.iconst 3, 1) := by decide +kernel
theorem d_Fit_lastEnd_2 : decode c_Fit_lastEnd 2 = .ok (.if_icmp .ne 7, 3) := by decide +kernel
theorem d_Fit_lastEnd_5 : decode c_Fit_lastEnd 5 = .ok (.iload_n 2, 1) := by decide +kernel
theorem d_Fit_lastEnd_6 : decode c_Fit_lastEnd 6 = .ok (.goto 6, 3) := by decide +kernel
theorem d_Fit_lastEnd_9 : decode c_Fit_lastEnd 9 = .ok (.iload_n 2, 1) := by decide +kernel
theorem d_Fit_lastEnd_10 : decode c_Fit_lastEnd 10 = .ok (.iconst 1, 1) := by decide +kernel
theorem d_Fit_lastEnd_11 : decode c_Fit_lastEnd 11 = .ok (.iadd, 1) := by decide +kernel
theorem d_Fit_lastEnd_12 : decode c_Fit_lastEnd 12 = .ok (.istore 4, 2) := by decide +kernel
theorem d_Fit_lastEnd_14 : decode c_Fit_lastEnd 14 = .ok (.iload_n 0, 1) := by decide +kernel
theorem d_Fit_lastEnd_15 : decode c_Fit_lastEnd 15 = .ok (.invokestatic 48, 3) := by decide +kernel
theorem d_Fit_lastEnd_18 : decode c_Fit_lastEnd 18 = .ok (.ifCond .eq 10, 3) := by decide +kernel
theorem d_Fit_lastEnd_21 : decode c_Fit_lastEnd 21 = .ok (.aload_n 1, 1) := by decide +kernel
theorem d_Fit_lastEnd_22 : decode c_Fit_lastEnd 22 = .ok (.getfield 52, 3) := by decide +kernel
theorem d_Fit_lastEnd_25 : decode c_Fit_lastEnd 25 = .ok (.goto 13, 3) := by decide +kernel
theorem d_Fit_lastEnd_28 : decode c_Fit_lastEnd 28 = .ok (.aload_n 1, 1) := by decide +kernel
theorem d_Fit_lastEnd_29 : decode c_Fit_lastEnd 29 = .ok (.getfield 52, 3) := by decide +kernel
theorem d_Fit_lastEnd_32 : decode c_Fit_lastEnd 32 = .ok (.iload_n 2, 1) := by decide +kernel
theorem d_Fit_lastEnd_33 : decode c_Fit_lastEnd 33 = .ok (.iconst 1, 1) := by decide +kernel
theorem d_Fit_lastEnd_34 : decode c_Fit_lastEnd 34 = .ok (.iadd, 1) := by decide +kernel
theorem d_Fit_lastEnd_35 : decode c_Fit_lastEnd 35 = .ok (.invokestatic 61, 3) := by decide +kernel
theorem d_Fit_lastEnd_38 : decode c_Fit_lastEnd 38 = .ok (.istore 5, 2) := by decide +kernel
theorem d_Fit_lastEnd_40 : decode c_Fit_lastEnd 40 = .ok (.iload_n 2, 1) := by decide +kernel
theorem d_Fit_lastEnd_41 : decode c_Fit_lastEnd 41 = .ok (.istore 6, 2) := by decide +kernel
theorem d_Fit_lastEnd_43 : decode c_Fit_lastEnd 43 = .ok (.iload 6, 2) := by decide +kernel
theorem d_Fit_lastEnd_45 : decode c_Fit_lastEnd 45 = .ok (.iload 5, 2) := by decide +kernel
theorem d_Fit_lastEnd_47 : decode c_Fit_lastEnd 47 = .ok (.if_icmp .ge 23, 3) := by decide +kernel
theorem d_Fit_lastEnd_50 : decode c_Fit_lastEnd 50 = .ok (.iload_n 0, 1) := by decide +kernel
theorem d_Fit_lastEnd_51 : decode c_Fit_lastEnd 51 = .ok (.aload_n 1, 1) := by decide +kernel
theorem d_Fit_lastEnd_52 : decode c_Fit_lastEnd 52 = .ok (.getfield 67, 3) := by decide +kernel
theorem d_Fit_lastEnd_55 : decode c_Fit_lastEnd 55 = .ok (.iload 6, 2) := by decide +kernel
theorem d_Fit_lastEnd_57 : decode c_Fit_lastEnd 57 = .ok (.caload, 1) := by decide +kernel
theorem d_Fit_lastEnd_58 : decode c_Fit_lastEnd 58 = .ok (.invokestatic 71, 3) := by decide +kernel
theorem d_Fit_lastEnd_61 : decode c_Fit_lastEnd 61 = .ok (.ifCond .eq 9, 3) := by decide +kernel
theorem d_Fit_lastEnd_64 : decode c_Fit_lastEnd 64 = .ok (.iinc 6 1, 3) := by decide +kernel
theorem d_Fit_lastEnd_67 : decode c_Fit_lastEnd 67 = .ok (.goto (-24), 3) := by decide +kernel
theorem d_Fit_lastEnd_70 : decode c_Fit_lastEnd 70 = .ok (.iload 6, 2) := by decide +kernel
theorem d_Fit_lastEnd_72 : decode c_Fit_lastEnd 72 = .ok (.iload 4, 2) := by decide +kernel
theorem d_Fit_lastEnd_74 : decode c_Fit_lastEnd 74 = .ok (.if_icmp .lt 18, 3) := by decide +kernel
theorem d_Fit_lastEnd_77 : decode c_Fit_lastEnd 77 = .ok (.iload_n 3, 1) := by decide +kernel
theorem d_Fit_lastEnd_78 : decode c_Fit_lastEnd 78 = .ok (.iload 6, 2) := by decide +kernel
theorem d_Fit_lastEnd_80 : decode c_Fit_lastEnd 80 = .ok (.invokestatic 32, 3) := by decide +kernel
theorem d_Fit_lastEnd_83 : decode c_Fit_lastEnd 83 = .ok (.ifCond .ne 9, 3) := by decide +kernel
theorem d_Fit_lastEnd_86 : decode c_Fit_lastEnd 86 = .ok (.iinc 6 (-1), 3) := by decide +kernel
theorem d_Fit_lastEnd_89 : decode c_Fit_lastEnd 89 = .ok (.goto (-19), 3) := by decide +kernel
theorem d_Fit_lastEnd_92 : decode c_Fit_lastEnd 92 = .ok (.iload 6, 2) := by decide +kernel
theorem d_Fit_lastEnd_94 : decode c_Fit_lastEnd 94 = .ok (.iload 4, 2) := by decide +kernel
theorem d_Fit_lastEnd_96 : decode c_Fit_lastEnd 96 = .ok (.if_icmp .lt 8, 3) := by decide +kernel
theorem d_Fit_lastEnd_99 : decode c_Fit_lastEnd 99 = .ok (.iload 6, 2) := by decide +kernel
theorem d_Fit_lastEnd_101 : decode c_Fit_lastEnd 101 = .ok (.goto 4, 3) := by decide +kernel
theorem d_Fit_lastEnd_104 : decode c_Fit_lastEnd 104 = .ok (.iconst (-1), 1) := by decide +kernel
theorem d_Fit_lastEnd_105 : decode c_Fit_lastEnd 105 = .ok (.ireturn, 1) := by decide +kernel
set_option maxHeartbeats 4000000 in
set_option maxRecDepth 100000 in
theorem sn_Fit_lastEnd_92 {l : Launch} {Γ : gk_G} {p : Program} {e : Env} {s : State} {m : MethodId} {args : Array Value} {below : List Frame} {meth : Method} {c : Code} (B : gk_B p s m args meth c gk_Y Γ c_Fit_lastEnd 7 "StageDispatcher$Fit") (hr : meth.sig.returnType = (some .int)) {ρ : Int32 × gk_M}   {x4 : Int32} {x6 : Int32} {M : gk_M} (h : fn_Fit_lastEnd_92  x4 x6 M = some ρ) : Gk p l e rm_Fit_lastEnd s m args below meth c gk_Y Γ 7 (MQ below (gk_Q gk_Y Γ (some (.int ρ.1)) ρ.2) args s rm_Fit_lastEnd.cells rm_Fit_lastEnd.slots (fun q => Γ.2.2 ≤ q)) 0 0 M 92 [none, none, none, none, some (.int x4), none, some (.int x6)] [] := by
  unfold fn_Fit_lastEnd_92 at h
  refine Gk_iload (x := x6) B d_Fit_lastEnd_92 rfl ?_
  refine Gk_iload (x := x4) B d_Fit_lastEnd_94 rfl ?_
  refine Gk_icmp_lt (tgt := 104) B d_Fit_lastEnd_96 rfl (fun c96 => ?_) (fun c96 => ?_)
  · rw [if_pos c96] at h
    refine Gk_iconst (v := (-1)) B d_Fit_lastEnd_104 (by decide) ?_
    cases h
    exact Gk_iret B hr d_Fit_lastEnd_105 rfl (by decide) (by decide) rfl
  rw [if_neg c96] at h
  refine Gk_iload (x := x6) B d_Fit_lastEnd_99 rfl ?_
  refine Gk_goto (tgt := 105) B d_Fit_lastEnd_101 rfl ?_
  cases h
  exact Gk_iret B hr d_Fit_lastEnd_105 rfl (by decide) (by decide) rfl
set_option maxHeartbeats 4000000 in
set_option maxRecDepth 100000 in
theorem sn_Fit_lastEnd_70_bd {l : Launch} {Γ : gk_G} {p : Program} {e : Env} {s : State} {m : MethodId} {args : Array Value} {below : List Frame} {meth : Method} {c : Code} (B : gk_B p s m args meth c gk_Y Γ c_Fit_lastEnd 7 "StageDispatcher$Fit") (hr : meth.sig.returnType = (some .int)) {ρ : Int32 × gk_M} {k70 : Int32 → Int32 → Int32 → gk_M → Option (Int32 × gk_M)} (H70 : ∀ (x3 : Int32) (x4 : Int32) (x6 : Int32) (M : gk_M), k70 x3 x4 x6 M = some ρ → Gk p l e rm_Fit_lastEnd s m args below meth c gk_Y Γ 7 (MQ below (gk_Q gk_Y Γ (some (.int ρ.1)) ρ.2) args s rm_Fit_lastEnd.cells rm_Fit_lastEnd.slots (fun q => Γ.2.2 ≤ q)) 0 0 M 70 [none, none, none, some (.int x3), some (.int x4), none, some (.int x6)] []) {x3 : Int32} {x4 : Int32} {x6 : Int32} {M : gk_M} (h : fn_Fit_lastEnd_70_bd k70 x3 x4 x6 M = some ρ) : Gk p l e rm_Fit_lastEnd s m args below meth c gk_Y Γ 7 (MQ below (gk_Q gk_Y Γ (some (.int ρ.1)) ρ.2) args s rm_Fit_lastEnd.cells rm_Fit_lastEnd.slots (fun q => Γ.2.2 ≤ q)) 0 0 M 70 [none, none, none, some (.int x3), some (.int x4), none, some (.int x6)] [] := by
  unfold fn_Fit_lastEnd_70_bd at h
  refine Gk_iload (x := x6) B d_Fit_lastEnd_70 rfl ?_
  refine Gk_iload (x := x4) B d_Fit_lastEnd_72 rfl ?_
  refine Gk_icmp_lt (tgt := 92) B d_Fit_lastEnd_74 rfl (fun c74 => ?_) (fun c74 => ?_)
  · rw [if_pos c74] at h
    refine Gk_weak [false, false, false, false, true, false, true] (L' := [none, none, none, none, some (.int x4), none, some (.int x6)]) rfl ?_
    exact sn_Fit_lastEnd_92 B hr h
  rw [if_neg c74] at h
  refine Gk_iload_n (i := 3) (x := x3) B d_Fit_lastEnd_77 rfl rfl ?_
  refine Gk_iload (x := x6) B d_Fit_lastEnd_78 rfl ?_
  obtain ⟨w80, h80, h⟩ := gk_bind h
  refine Gk_callSN (As := [.int x3, .int x6]) (rest := []) (st1 := [.int w80.1]) (k1 := 0) (n1 := 0) B gk_hG d_Fit_lastEnd_80 (sn_SD_holds h80) tw_593 nw_591 tw_592 tw_40 nm_SD_holds rfl (by decide) ⟨by decide, by decide⟩ ⟨by decide, by decide⟩ rfl rfl rfl rfl ?_
  refine Gk_if_ne (tgt := 92) B d_Fit_lastEnd_83 rfl (fun c83 => ?_) (fun c83 => ?_)
  · rw [if_neg c83] at h
    refine Gk_weak [false, false, false, false, true, false, true] (L' := [none, none, none, none, some (.int x4), none, some (.int x6)]) rfl ?_
    exact sn_Fit_lastEnd_92 B hr h
  rw [if_pos c83] at h
  refine Gk_iinc (x := x6) (v := (x6 + (-1))) (L' := [none, none, none, some (.int x3), some (.int x4), none, some (.int (x6 + (-1)))]) B d_Fit_lastEnd_86 rfl (congrArg (fun z => x6 + z) (by decide : Int32.ofInt (-1) = (-1))) (by decide) (gk_c1_n rfl) rfl ?_
  refine Gk_goto (tgt := 70) B d_Fit_lastEnd_89 rfl ?_
  exact H70 x3 x4 (x6 + (-1)) w80.2 h
set_option maxHeartbeats 4000000 in
set_option maxRecDepth 100000 in
theorem sn_Fit_lastEnd_70 {l : Launch} {Γ : gk_G} {p : Program} {e : Env} {s : State} {m : MethodId} {args : Array Value} {below : List Frame} {meth : Method} {c : Code} (B : gk_B p s m args meth c gk_Y Γ c_Fit_lastEnd 7 "StageDispatcher$Fit") (hr : meth.sig.returnType = (some .int)) {ρ : Int32 × gk_M}   {x3 : Int32} {x4 : Int32} {x6 : Int32} {M : gk_M} (h : fn_Fit_lastEnd_70  x3 x4 x6 M = some ρ) : Gk p l e rm_Fit_lastEnd s m args below meth c gk_Y Γ 7 (MQ below (gk_Q gk_Y Γ (some (.int ρ.1)) ρ.2) args s rm_Fit_lastEnd.cells rm_Fit_lastEnd.slots (fun q => Γ.2.2 ≤ q)) 0 0 M 70 [none, none, none, some (.int x3), some (.int x4), none, some (.int x6)] [] := by
  unfold fn_Fit_lastEnd_70 at h
  exact gk_loop_sound (α := Int32 × Int32 × Int32 × gk_M) (P := fun a => Gk p l e rm_Fit_lastEnd s m args below meth c gk_Y Γ 7 (MQ below (gk_Q gk_Y Γ (some (.int ρ.1)) ρ.2) args s rm_Fit_lastEnd.cells rm_Fit_lastEnd.slots (fun q => Γ.2.2 ≤ q)) 0 0 a.2.2.2 70 [none, none, none, some (.int a.1), some (.int a.2.1), none, some (.int a.2.2.1)] []) (fun kk a Hk hb => sn_Fit_lastEnd_70_bd B hr (fun x3 x4 x6 M hh => Hk (x3, x4, x6, M) hh) hb) _ _ h
set_option maxHeartbeats 4000000 in
set_option maxRecDepth 100000 in
theorem sn_Fit_lastEnd_43_bd {l : Launch} {Γ : gk_G} {p : Program} {e : Env} {s : State} {m : MethodId} {args : Array Value} {below : List Frame} {meth : Method} {c : Code} (B : gk_B p s m args meth c gk_Y Γ c_Fit_lastEnd 7 "StageDispatcher$Fit") (hr : meth.sig.returnType = (some .int)) {ρ : Int32 × gk_M} {k43 : Int32 → Option Nat → Int32 → Int32 → Int32 → Int32 → gk_M → Option (Int32 × gk_M)} (H43 : ∀ (x0 : Int32) (a1 : Option Nat) (x3 : Int32) (x4 : Int32) (x5 : Int32) (x6 : Int32) (M : gk_M), k43 x0 a1 x3 x4 x5 x6 M = some ρ → Gk p l e rm_Fit_lastEnd s m args below meth c gk_Y Γ 7 (MQ below (gk_Q gk_Y Γ (some (.int ρ.1)) ρ.2) args s rm_Fit_lastEnd.cells rm_Fit_lastEnd.slots (fun q => Γ.2.2 ≤ q)) 0 0 M 43 [some (.int x0), some (va_rf a1), none, some (.int x3), some (.int x4), some (.int x5), some (.int x6)] []) {x0 : Int32} {a1 : Option Nat} {x3 : Int32} {x4 : Int32} {x5 : Int32} {x6 : Int32} {M : gk_M} (h : fn_Fit_lastEnd_43_bd k43 x0 a1 x3 x4 x5 x6 M = some ρ) : Gk p l e rm_Fit_lastEnd s m args below meth c gk_Y Γ 7 (MQ below (gk_Q gk_Y Γ (some (.int ρ.1)) ρ.2) args s rm_Fit_lastEnd.cells rm_Fit_lastEnd.slots (fun q => Γ.2.2 ≤ q)) 0 0 M 43 [some (.int x0), some (va_rf a1), none, some (.int x3), some (.int x4), some (.int x5), some (.int x6)] [] := by
  unfold fn_Fit_lastEnd_43_bd at h
  refine Gk_iload (x := x6) B d_Fit_lastEnd_43 rfl ?_
  refine Gk_iload (x := x5) B d_Fit_lastEnd_45 rfl ?_
  refine Gk_icmp_ge (tgt := 70) B d_Fit_lastEnd_47 rfl (fun c47 => ?_) (fun c47 => ?_)
  · rw [if_pos c47] at h
    refine Gk_weak [false, false, false, true, true, false, true] (L' := [none, none, none, some (.int x3), some (.int x4), none, some (.int x6)]) rfl ?_
    exact sn_Fit_lastEnd_70 B hr h
  rw [if_neg c47] at h
  refine Gk_iload_n (i := 0) (x := x0) B d_Fit_lastEnd_50 rfl rfl ?_
  refine Gk_aload_n (i := 1) (r := a1) B d_Fit_lastEnd_51 rfl rfl ?_
  obtain ⟨v52, h52, h⟩ := gk_bind h
  refine Gk_getR (j := 0) B d_Fit_lastEnd_52 in_Text cl_Text (by decide) tw_72 rfl h52 ?_
  refine Gk_iload (x := x6) B d_Fit_lastEnd_55 rfl ?_
  obtain ⟨v57, h57, h⟩ := gk_bind h
  refine Gk_caload B d_Fit_lastEnd_57 ty_1 h57 ?_
  obtain ⟨w58, h58, h⟩ := gk_bind h
  refine Gk_callS (As := [.int x0, .int v57]) (rest := []) (st1 := [.int w58.1]) (k1 := 0) (n1 := 0) B gk_hG d_Fit_lastEnd_58 (sn_Fit_mayHold h58) tw_590 tw_588 tw_589 tw_46 nm_Fit_mayHold rfl (by decide) ⟨by decide, by decide⟩ ⟨by decide, by decide⟩ rfl rfl rfl rfl ?_
  refine Gk_if_eq (tgt := 70) B d_Fit_lastEnd_61 rfl (fun c61 => ?_) (fun c61 => ?_)
  · rw [if_pos c61] at h
    refine Gk_weak [false, false, false, true, true, false, true] (L' := [none, none, none, some (.int x3), some (.int x4), none, some (.int x6)]) rfl ?_
    exact sn_Fit_lastEnd_70 B hr h
  rw [if_neg c61] at h
  refine Gk_iinc (x := x6) (v := (x6 + 1)) (L' := [some (.int x0), some (va_rf a1), none, some (.int x3), some (.int x4), some (.int x5), some (.int (x6 + 1))]) B d_Fit_lastEnd_64 rfl (congrArg (fun z => x6 + z) (by decide : Int32.ofInt 1 = 1)) (by decide) (gk_c1_i rfl) rfl ?_
  refine Gk_goto (tgt := 43) B d_Fit_lastEnd_67 rfl ?_
  exact H43 x0 a1 x3 x4 x5 (x6 + 1) w58.2 h
set_option maxHeartbeats 4000000 in
set_option maxRecDepth 100000 in
theorem sn_Fit_lastEnd_43 {l : Launch} {Γ : gk_G} {p : Program} {e : Env} {s : State} {m : MethodId} {args : Array Value} {below : List Frame} {meth : Method} {c : Code} (B : gk_B p s m args meth c gk_Y Γ c_Fit_lastEnd 7 "StageDispatcher$Fit") (hr : meth.sig.returnType = (some .int)) {ρ : Int32 × gk_M}   {x0 : Int32} {a1 : Option Nat} {x3 : Int32} {x4 : Int32} {x5 : Int32} {x6 : Int32} {M : gk_M} (h : fn_Fit_lastEnd_43  x0 a1 x3 x4 x5 x6 M = some ρ) : Gk p l e rm_Fit_lastEnd s m args below meth c gk_Y Γ 7 (MQ below (gk_Q gk_Y Γ (some (.int ρ.1)) ρ.2) args s rm_Fit_lastEnd.cells rm_Fit_lastEnd.slots (fun q => Γ.2.2 ≤ q)) 0 0 M 43 [some (.int x0), some (va_rf a1), none, some (.int x3), some (.int x4), some (.int x5), some (.int x6)] [] := by
  unfold fn_Fit_lastEnd_43 at h
  exact gk_loop_sound (α := Int32 × Option Nat × Int32 × Int32 × Int32 × Int32 × gk_M) (P := fun a => Gk p l e rm_Fit_lastEnd s m args below meth c gk_Y Γ 7 (MQ below (gk_Q gk_Y Γ (some (.int ρ.1)) ρ.2) args s rm_Fit_lastEnd.cells rm_Fit_lastEnd.slots (fun q => Γ.2.2 ≤ q)) 0 0 a.2.2.2.2.2.2 43 [some (.int a.1), some (va_rf a.2.1), none, some (.int a.2.2.1), some (.int a.2.2.2.1), some (.int a.2.2.2.2.1), some (.int a.2.2.2.2.2.1)] []) (fun kk a Hk hb => sn_Fit_lastEnd_43_bd B hr (fun x0 a1 x3 x4 x5 x6 M hh => Hk (x0, a1, x3, x4, x5, x6, M) hh) hb) _ _ h
set_option maxHeartbeats 4000000 in
set_option maxRecDepth 100000 in
theorem sn_Fit_lastEnd_38 {l : Launch} {Γ : gk_G} {p : Program} {e : Env} {s : State} {m : MethodId} {args : Array Value} {below : List Frame} {meth : Method} {c : Code} (B : gk_B p s m args meth c gk_Y Γ c_Fit_lastEnd 7 "StageDispatcher$Fit") (hr : meth.sig.returnType = (some .int)) {ρ : Int32 × gk_M}   {x0 : Int32} {a1 : Option Nat} {x2 : Int32} {x3 : Int32} {x4 : Int32} {s0 : Int32} {M : gk_M} (h : fn_Fit_lastEnd_38  x0 a1 x2 x3 x4 s0 M = some ρ) : Gk p l e rm_Fit_lastEnd s m args below meth c gk_Y Γ 7 (MQ below (gk_Q gk_Y Γ (some (.int ρ.1)) ρ.2) args s rm_Fit_lastEnd.cells rm_Fit_lastEnd.slots (fun q => Γ.2.2 ≤ q)) 0 0 M 38 [some (.int x0), some (va_rf a1), some (.int x2), some (.int x3), some (.int x4), none, none] [.int s0] := by
  unfold fn_Fit_lastEnd_38 at h
  refine Gk_istore (L' := [some (.int x0), some (va_rf a1), some (.int x2), some (.int x3), some (.int x4), some (.int s0), none]) B d_Fit_lastEnd_38 (by decide) (gk_c1_i rfl) rfl ?_
  refine Gk_iload_n (i := 2) (x := x2) B d_Fit_lastEnd_40 rfl rfl ?_
  refine Gk_istore (L' := [some (.int x0), some (va_rf a1), some (.int x2), some (.int x3), some (.int x4), some (.int s0), some (.int x2)]) B d_Fit_lastEnd_41 (by decide) (gk_c1_i rfl) rfl ?_
  refine Gk_weak [true, true, false, true, true, true, true] (L' := [some (.int x0), some (va_rf a1), none, some (.int x3), some (.int x4), some (.int s0), some (.int x2)]) rfl ?_
  exact sn_Fit_lastEnd_43 B hr h
set_option maxHeartbeats 4000000 in
set_option maxRecDepth 100000 in
theorem sn_Fit_lastEnd_12 {l : Launch} {Γ : gk_G} {p : Program} {e : Env} {s : State} {m : MethodId} {args : Array Value} {below : List Frame} {meth : Method} {c : Code} (B : gk_B p s m args meth c gk_Y Γ c_Fit_lastEnd 7 "StageDispatcher$Fit") (hr : meth.sig.returnType = (some .int)) {ρ : Int32 × gk_M}   {x0 : Int32} {a1 : Option Nat} {x2 : Int32} {x3 : Int32} {s0 : Int32} {M : gk_M} (h : fn_Fit_lastEnd_12  x0 a1 x2 x3 s0 M = some ρ) : Gk p l e rm_Fit_lastEnd s m args below meth c gk_Y Γ 7 (MQ below (gk_Q gk_Y Γ (some (.int ρ.1)) ρ.2) args s rm_Fit_lastEnd.cells rm_Fit_lastEnd.slots (fun q => Γ.2.2 ≤ q)) 0 0 M 12 [some (.int x0), some (va_rf a1), some (.int x2), some (.int x3), none, none, none] [.int s0] := by
  unfold fn_Fit_lastEnd_12 at h
  refine Gk_istore (L' := [some (.int x0), some (va_rf a1), some (.int x2), some (.int x3), some (.int s0), none, none]) B d_Fit_lastEnd_12 (by decide) (gk_c1_i rfl) rfl ?_
  refine Gk_iload_n (i := 0) (x := x0) B d_Fit_lastEnd_14 rfl rfl ?_
  obtain ⟨w15, h15, h⟩ := gk_bind h
  refine Gk_callS (As := [.int x0]) (rest := []) (st1 := [.int w15.1]) (k1 := 0) (n1 := 0) B gk_hG d_Fit_lastEnd_15 (sn_Template_isGroup h15) tw_336 tw_584 tw_335 tw_49 nm_Template_isGroup rfl (by decide) ⟨by decide, by decide⟩ ⟨by decide, by decide⟩ rfl rfl rfl rfl ?_
  refine Gk_if_eq (tgt := 28) B d_Fit_lastEnd_18 rfl (fun c18 => ?_) (fun c18 => ?_)
  · rw [if_pos c18] at h
    refine Gk_aload_n (i := 1) (r := a1) B d_Fit_lastEnd_28 rfl rfl ?_
    obtain ⟨v29, h29, h⟩ := gk_bind h
    refine Gk_getI (j := 1) B d_Fit_lastEnd_29 in_Text cl_Text (by decide) tw_77 rfl h29 ?_
    refine Gk_iload_n (i := 2) (x := x2) B d_Fit_lastEnd_32 rfl rfl ?_
    refine Gk_iconst (v := 1) B d_Fit_lastEnd_33 (by decide) ?_
    refine Gk_iadd B d_Fit_lastEnd_34 ?_
    refine Gk_mmin B d_Fit_lastEnd_35 tw_585 tw_586 tw_50 tw_587 (by decide) (by decide) (by decide) (by decide) ?_
    exact sn_Fit_lastEnd_38 B hr h
  rw [if_neg c18] at h
  refine Gk_aload_n (i := 1) (r := a1) B d_Fit_lastEnd_21 rfl rfl ?_
  obtain ⟨v22, h22, h⟩ := gk_bind h
  refine Gk_getI (j := 1) B d_Fit_lastEnd_22 in_Text cl_Text (by decide) tw_77 rfl h22 ?_
  refine Gk_goto (tgt := 38) B d_Fit_lastEnd_25 rfl ?_
  exact sn_Fit_lastEnd_38 B hr h
set_option maxHeartbeats 4000000 in
set_option maxRecDepth 100000 in
theorem sn_Fit_lastEnd_0 {l : Launch} {Γ : gk_G} {p : Program} {e : Env} {s : State} {m : MethodId} {args : Array Value} {below : List Frame} {meth : Method} {c : Code} (B : gk_B p s m args meth c gk_Y Γ c_Fit_lastEnd 7 "StageDispatcher$Fit") (hr : meth.sig.returnType = (some .int)) {ρ : Int32 × gk_M}   {x0 : Int32} {a1 : Option Nat} {x2 : Int32} {x3 : Int32} {M : gk_M} (h : fn_Fit_lastEnd  x0 a1 x2 x3 M = some ρ) : Gk p l e rm_Fit_lastEnd s m args below meth c gk_Y Γ 7 (MQ below (gk_Q gk_Y Γ (some (.int ρ.1)) ρ.2) args s rm_Fit_lastEnd.cells rm_Fit_lastEnd.slots (fun q => Γ.2.2 ≤ q)) 0 0 M 0 [some (.int x0), some (va_rf a1), some (.int x2), some (.int x3), none, none, none] [] := by
  unfold fn_Fit_lastEnd at h
  refine Gk_iload_n (i := 0) (x := x0) B d_Fit_lastEnd_0 rfl rfl ?_
  refine Gk_iconst (v := 3) B d_Fit_lastEnd_1 (by decide) ?_
  refine Gk_icmp_ne (tgt := 9) B d_Fit_lastEnd_2 rfl (fun c2 => ?_) (fun c2 => ?_)
  · rw [if_neg c2] at h
    refine Gk_iload_n (i := 2) (x := x2) B d_Fit_lastEnd_9 rfl rfl ?_
    refine Gk_iconst (v := 1) B d_Fit_lastEnd_10 (by decide) ?_
    refine Gk_iadd B d_Fit_lastEnd_11 ?_
    exact sn_Fit_lastEnd_12 B hr h
  rw [if_pos c2] at h
  refine Gk_iload_n (i := 2) (x := x2) B d_Fit_lastEnd_5 rfl rfl ?_
  refine Gk_goto (tgt := 12) B d_Fit_lastEnd_6 rfl ?_
  exact sn_Fit_lastEnd_12 B hr h
theorem sn_Fit_lastEnd {l : Launch} {Γ : gk_G} {x0 : Int32} {a1 : Option Nat} {x2 : Int32} {x3 : Int32} {M : gk_M} {ρ : Int32 × gk_M} (h : fn_Fit_lastEnd x0 a1 x2 x3 M = some ρ) : gk_Met l gk_Y Γ y_Fit_lastEnd (.code y_Fit_lastEnd c_Fit_lastEnd 7 (some .int) :: gk_Y.2.2.2) rm_Fit_lastEnd [.int x0, va_rf a1, .int x2, .int x3] M (some (.int ρ.1)) ρ.2 :=
  gk_start (by decide) (by simp [lg_sl, gk_rc, gk_ic, gk_jc]) [some (.int x0), some (va_rf a1), some (.int x2), some (.int x3), none, none, none] (by simp [gk_as, lv_args, gk_rc, gk_ic, gk_jc]) (fun p e s m args below meth c B hr hin => sn_Fit_lastEnd_0 B hr h)
