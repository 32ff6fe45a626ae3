theorem d_Mo_detail_0 : decode c_Mo_detail 0 = .ok (.iload_n 1, 1) := by decide +kernel
theorem d_Mo_detail_1 : decode c_Mo_detail 1 = .ok (.iconst 0, 1) := by decide +kernel
theorem d_Mo_detail_2 : decode c_Mo_detail 2 = .ok (.aload_n 0, 1) := by decide +kernel
theorem d_Mo_detail_3 : decode c_Mo_detail 3 = .ok (.getfield 175, 3) := by decide +kernel
theorem d_Mo_detail_6 : decode c_Mo_detail 6 = .ok (.iconst 1, 1) := by decide +kernel
theorem d_Mo_detail_7 : decode c_Mo_detail 7 = .ok (.isub, 1) := by decide +kernel
theorem d_Mo_detail_8 : decode c_Mo_detail 8 = .ok (.invokestatic 167, 3) := by decide +kernel
theorem d_Mo_detail_11 : decode c_Mo_detail 11 = .ok (.ifCond .ne 33, 3) := by decide +kernel
theorem d_Mo_detail_14 : decode c_Mo_detail 14 = .ok (.iload_n 2, 1) := by decide +kernel
theorem d_Mo_detail_15 : decode c_Mo_detail 15 = .ok (.iconst (-1), 1) := by decide +kernel
theorem d_Mo_detail_16 : decode c_Mo_detail 16 = .ok (.bipush 9, 2) := by decide +kernel
theorem d_Mo_detail_18 : decode c_Mo_detail 18 = .ok (.invokestatic 167, 3) := by decide +kernel
theorem d_Mo_detail_21 : decode c_Mo_detail 21 = .ok (.ifCond .ne 23, 3) := by decide +kernel
theorem d_Mo_detail_24 : decode c_Mo_detail 24 = .ok (.iload_n 3, 1) := by decide +kernel
theorem d_Mo_detail_25 : decode c_Mo_detail 25 = .ok (.iconst 0, 1) := by decide +kernel
theorem d_Mo_detail_26 : decode c_Mo_detail 26 = .ok (.iconst 3, 1) := by decide +kernel
theorem d_Mo_detail_27 : decode c_Mo_detail 27 = .ok (.invokestatic 167, 3) := by decide +kernel
theorem d_Mo_detail_30 : decode c_Mo_detail 30 = .ok (.ifCond .ne 14, 3) := by decide +kernel
theorem d_Mo_detail_33 : decode c_Mo_detail 33 = .ok (.iload 4, 2) := by decide +kernel
theorem d_Mo_detail_35 : decode c_Mo_detail 35 = .ok (.iconst 0, 1) := by decide +kernel
theorem d_Mo_detail_36 : decode c_Mo_detail 36 = .ok (.bipush 15, 2) := by decide +kernel
theorem d_Mo_detail_38 : decode c_Mo_detail 38 = .ok (.invokestatic 167, 3) := by decide +kernel
theorem d_Mo_detail_41 : decode c_Mo_detail 41 = .ok (.ifCond .eq 5, 3) := by decide +kernel
theorem d_Mo_detail_44 : decode c_Mo_detail 44 = .ok (.iconst 0, 1) := by decide +kernel
theorem d_Mo_detail_45 : decode c_Mo_detail 45 = .ok (.ireturn, 1) := by decide +kernel
theorem d_Mo_detail_46 : decode c_Mo_detail 46 = .ok (.aload_n 0, 1) := by decide +kernel
theorem d_Mo_detail_47 : decode c_Mo_detail 47 = .ok (.getfield 35, 3) := by decide +kernel
theorem d_Mo_detail_50 : decode c_Mo_detail 50 = .ok (.iload_n 1, 1) := by decide +kernel
theorem d_Mo_detail_51 : decode c_Mo_detail 51 = .ok (.iload_n 2, 1) := by decide +kernel
theorem d_Mo_detail_52 : decode c_Mo_detail 52 = .ok (.iastore, 1) := by decide +kernel
theorem d_Mo_detail_53 : decode c_Mo_detail 53 = .ok (.aload_n 0, 1) := by decide +kernel
theorem d_Mo_detail_54 : decode c_Mo_detail 54 = .ok (.getfield 38, 3) := by decide +kernel
theorem d_Mo_detail_57 : decode c_Mo_detail 57 = .ok (.iload_n 1, 1) := by decide +kernel
theorem d_Mo_detail_58 : decode c_Mo_detail 58 = .ok (.iload_n 3, 1) := by decide +kernel
theorem d_Mo_detail_59 : decode c_Mo_detail 59 = .ok (.iastore, 1) := by decide +kernel
theorem d_Mo_detail_60 : decode c_Mo_detail 60 = .ok (.aload_n 0, 1) := by decide +kernel
theorem d_Mo_detail_61 : decode c_Mo_detail 61 = .ok (.getfield 41, 3) := by decide +kernel
theorem d_Mo_detail_64 : decode c_Mo_detail 64 = .ok (.iload_n 1, 1) := by decide +kernel
theorem d_Mo_detail_65 : decode c_Mo_detail 65 = .ok (.iload 4, 2) := by decide +kernel
theorem d_Mo_detail_67 : decode c_Mo_detail 67 = .ok (.iastore, 1) := by decide +kernel
theorem d_Mo_detail_68 : decode c_Mo_detail 68 = .ok (.iconst 1, 1) := by decide +kernel
theorem d_Mo_detail_69 : decode c_Mo_detail 69 = .ok (.ireturn, 1) := by decide +kernel
set_option maxHeartbeats 4000000 in
set_option maxRecDepth 100000 in
theorem sn_Mo_detail_0 {l : Launch} {Γ : gk_G} {p : Program} {e : Env} {s : State} {m : MethodId} {args : Array Value} {below : List Frame} {meth : Method} {c : Code} (B : gk_B p s m args meth c gk_Y Γ c_Mo_detail 5 "StageDispatcherModel") (hr : meth.sig.returnType = (some .boolean)) {ρ : Int32 × gk_M}   {a0 : Option Nat} {x1 : Int32} {x2 : Int32} {x3 : Int32} {x4 : Int32} {M : gk_M} (h : fn_Mo_detail  a0 x1 x2 x3 x4 M = some ρ) : Gk p l e rm_Mo_detail s m args below meth c gk_Y Γ 5 (MQ below (gk_Q gk_Y Γ (some (.int ρ.1)) ρ.2) args s rm_Mo_detail.cells rm_Mo_detail.slots (fun q => Γ.2.2 ≤ q)) 0 0 M 0 [some (va_rf a0), some (.int x1), some (.int x2), some (.int x3), some (.int x4)] [] := by
  unfold fn_Mo_detail at h
  refine Gk_iload_n (i := 1) (x := x1) B d_Mo_detail_0 rfl rfl ?_
  refine Gk_iconst (v := 0) B d_Mo_detail_1 (by decide) ?_
  refine Gk_aload_n (i := 0) (r := a0) B d_Mo_detail_2 rfl rfl ?_
  obtain ⟨v3, h3, h⟩ := gk_bind h
  refine Gk_getI (j := 5) B d_Mo_detail_3 in_Mo cl_Mo (by decide) tw_760 rfl h3 ?_
  refine Gk_iconst (v := 1) B d_Mo_detail_6 (by decide) ?_
  refine Gk_isub B d_Mo_detail_7 ?_
  obtain ⟨w8, h8, h⟩ := gk_bind h
  refine Gk_callS (As := [.int x1, .int 0, .int (v3 - (1 : Int32))]) (rest := []) (st1 := [.int w8.1]) (k1 := 0) (n1 := 0) B gk_hG d_Mo_detail_8 (sn_Mo_outside h8) tw_954 tw_952 tw_953 tw_48 nm_Mo_outside rfl (by decide) ⟨by decide, by decide⟩ ⟨by decide, by decide⟩ rfl rfl rfl rfl ?_
  refine Gk_if_ne (tgt := 44) B d_Mo_detail_11 rfl (fun c11 => ?_) (fun c11 => ?_)
  · rw [if_neg c11] at h
    refine Gk_iconst (v := 0) B d_Mo_detail_44 (by decide) ?_
    obtain ⟨z, hz, h⟩ := gk_bind h
    obtain ⟨hz1, hz2⟩ := gk_z_eq hz
    cases h
    subst hz1
    exact Gk_iret B hr d_Mo_detail_45 (gk_nz hz2) (by decide) (by decide) rfl
  rw [if_pos c11] at h
  refine Gk_iload_n (i := 2) (x := x2) B d_Mo_detail_14 rfl rfl ?_
  refine Gk_iconst (v := (-1)) B d_Mo_detail_15 (by decide) ?_
  refine Gk_bipush (v := 9) B d_Mo_detail_16 (by decide) ?_
  obtain ⟨w18, h18, h⟩ := gk_bind h
  refine Gk_callS (As := [.int x2, .int (-1), .int 9]) (rest := []) (st1 := [.int w18.1]) (k1 := 0) (n1 := 0) B gk_hG d_Mo_detail_18 (sn_Mo_outside h18) tw_954 tw_952 tw_953 tw_48 nm_Mo_outside rfl (by decide) ⟨by decide, by decide⟩ ⟨by decide, by decide⟩ rfl rfl rfl rfl ?_
  refine Gk_if_ne (tgt := 44) B d_Mo_detail_21 rfl (fun c21 => ?_) (fun c21 => ?_)
  · rw [if_neg c21] at h
    refine Gk_iconst (v := 0) B d_Mo_detail_44 (by decide) ?_
    obtain ⟨z, hz, h⟩ := gk_bind h
    obtain ⟨hz1, hz2⟩ := gk_z_eq hz
    cases h
    subst hz1
    exact Gk_iret B hr d_Mo_detail_45 (gk_nz hz2) (by decide) (by decide) rfl
  rw [if_pos c21] at h
  refine Gk_iload_n (i := 3) (x := x3) B d_Mo_detail_24 rfl rfl ?_
  refine Gk_iconst (v := 0) B d_Mo_detail_25 (by decide) ?_
  refine Gk_iconst (v := 3) B d_Mo_detail_26 (by decide) ?_
  obtain ⟨w27, h27, h⟩ := gk_bind h
  refine Gk_callS (As := [.int x3, .int 0, .int 3]) (rest := []) (st1 := [.int w27.1]) (k1 := 0) (n1 := 0) B gk_hG d_Mo_detail_27 (sn_Mo_outside h27) tw_954 tw_952 tw_953 tw_48 nm_Mo_outside rfl (by decide) ⟨by decide, by decide⟩ ⟨by decide, by decide⟩ rfl rfl rfl rfl ?_
  refine Gk_if_ne (tgt := 44) B d_Mo_detail_30 rfl (fun c30 => ?_) (fun c30 => ?_)
  · rw [if_neg c30] at h
    refine Gk_iconst (v := 0) B d_Mo_detail_44 (by decide) ?_
    obtain ⟨z, hz, h⟩ := gk_bind h
    obtain ⟨hz1, hz2⟩ := gk_z_eq hz
    cases h
    subst hz1
    exact Gk_iret B hr d_Mo_detail_45 (gk_nz hz2) (by decide) (by decide) rfl
  rw [if_pos c30] at h
  refine Gk_iload (x := x4) B d_Mo_detail_33 rfl ?_
  refine Gk_iconst (v := 0) B d_Mo_detail_35 (by decide) ?_
  refine Gk_bipush (v := 15) B d_Mo_detail_36 (by decide) ?_
  obtain ⟨w38, h38, h⟩ := gk_bind h
  refine Gk_callS (As := [.int x4, .int 0, .int 15]) (rest := []) (st1 := [.int w38.1]) (k1 := 0) (n1 := 0) B gk_hG d_Mo_detail_38 (sn_Mo_outside h38) tw_954 tw_952 tw_953 tw_48 nm_Mo_outside rfl (by decide) ⟨by decide, by decide⟩ ⟨by decide, by decide⟩ rfl rfl rfl rfl ?_
  refine Gk_if_eq (tgt := 46) B d_Mo_detail_41 rfl (fun c41 => ?_) (fun c41 => ?_)
  · rw [if_pos c41] at h
    refine Gk_aload_n (i := 0) (r := a0) B d_Mo_detail_46 rfl rfl ?_
    obtain ⟨v47, h47, h⟩ := gk_bind h
    refine Gk_getR (j := 11) B d_Mo_detail_47 in_Mo cl_Mo (by decide) tw_766 rfl h47 ?_
    refine Gk_iload_n (i := 1) (x := x1) B d_Mo_detail_50 rfl rfl ?_
    refine Gk_iload_n (i := 2) (x := x2) B d_Mo_detail_51 rfl rfl ?_
    obtain ⟨M52, h52, h⟩ := gk_bind h
    refine Gk_iastore B d_Mo_detail_52 ty_0 h52 ?_
    refine Gk_aload_n (i := 0) (r := a0) B d_Mo_detail_53 rfl rfl ?_
    obtain ⟨v54, h54, h⟩ := gk_bind h
    refine Gk_getR (j := 12) B d_Mo_detail_54 in_Mo cl_Mo (by decide) tw_767 rfl h54 ?_
    refine Gk_iload_n (i := 1) (x := x1) B d_Mo_detail_57 rfl rfl ?_
    refine Gk_iload_n (i := 3) (x := x3) B d_Mo_detail_58 rfl rfl ?_
    obtain ⟨M59, h59, h⟩ := gk_bind h
    refine Gk_iastore B d_Mo_detail_59 ty_0 h59 ?_
    refine Gk_aload_n (i := 0) (r := a0) B d_Mo_detail_60 rfl rfl ?_
    obtain ⟨v61, h61, h⟩ := gk_bind h
    refine Gk_getR (j := 13) B d_Mo_detail_61 in_Mo cl_Mo (by decide) tw_768 rfl h61 ?_
    refine Gk_iload_n (i := 1) (x := x1) B d_Mo_detail_64 rfl rfl ?_
    refine Gk_iload (x := x4) B d_Mo_detail_65 rfl ?_
    obtain ⟨M67, h67, h⟩ := gk_bind h
    refine Gk_iastore B d_Mo_detail_67 ty_0 h67 ?_
    refine Gk_iconst (v := 1) B d_Mo_detail_68 (by decide) ?_
    obtain ⟨z, hz, h⟩ := gk_bind h
    obtain ⟨hz1, hz2⟩ := gk_z_eq hz
    cases h
    subst hz1
    exact Gk_iret B hr d_Mo_detail_69 (gk_nz hz2) (by decide) (by decide) rfl
  rw [if_neg c41] at h
  refine Gk_iconst (v := 0) B d_Mo_detail_44 (by decide) ?_
  obtain ⟨z, hz, h⟩ := gk_bind h
  obtain ⟨hz1, hz2⟩ := gk_z_eq hz
  cases h
  subst hz1
  exact Gk_iret B hr d_Mo_detail_45 (gk_nz hz2) (by decide) (by decide) rfl
theorem sn_Mo_detail {l : Launch} {Γ : gk_G} {a0 : Option Nat} {x1 : Int32} {x2 : Int32} {x3 : Int32} {x4 : Int32} {M : gk_M} {ρ : Int32 × gk_M} (h : fn_Mo_detail a0 x1 x2 x3 x4 M = some ρ) : gk_Met l gk_Y Γ y_Mo_detail (.code y_Mo_detail c_Mo_detail 5 (some .boolean) :: gk_Y.2.2.2) rm_Mo_detail [va_rf a0, .int x1, .int x2, .int x3, .int x4] M (some (.int ρ.1)) ρ.2 :=
  gk_start (by decide) (by simp [lg_sl, gk_rc, gk_ic, gk_jc]) [some (va_rf a0), some (.int x1), some (.int x2), some (.int x3), some (.int x4)] (by simp [gk_as, lv_args, gk_rc, gk_ic, gk_jc]) (fun p e s m args below meth c B hr hin => sn_Mo_detail_0 B hr h)
theorem d_Record_init_0 : decode c_Record_init 0 = .ok (.aload_n 0, 1) := by decide +kernel
theorem d_Record_init_1 : decode c_Record_init 1 = .ok (.invokespecial 1, 3) := by decide +kernel
theorem d_Record_init_4 : decode c_Record_init 4 = .ok (.return_, 1) := by decide +kernel
set_option maxHeartbeats 4000000 in
set_option maxRecDepth 100000 in
theorem sn_Record_init_0 {l : Launch} {Γ : gk_G} {p : Program} {e : Env} {s : State} {m : MethodId} {args : Array Value} {below : List Frame} {meth : Method} {c : Code} (B : gk_B p s m args meth c gk_Y Γ c_Record_init 1 "java/lang/Record") (hr : meth.sig.returnType = none) (hin : meth.name = "<init>") {ρ : gk_M}   {a0 : Option Nat} {M : gk_M} (h : fn_Record_init  a0 M = some ρ) : Gk p l e rm_Record_init s m args below meth c gk_Y Γ 1 (MQ below (gk_Q gk_Y Γ none ρ) args s rm_Record_init.cells rm_Record_init.slots (fun q => Γ.2.2 ≤ q)) 0 0 M 0 [some (va_rf a0)] [] := by
  unfold fn_Record_init at h
  refine Gk_aload_n (i := 0) (r := a0) B d_Record_init_0 rfl rfl ?_
  obtain ⟨o1, h1, h⟩ := gk_bind h
  refine Gk_objInit B d_Record_init_1 tw_451 tw_62 tw_63 h1 (by decide) (by decide) ?_
  cases h
  exact Gk_vret B hr d_Record_init_4 (by decide) (by decide) rfl
theorem sn_Record_init {l : Launch} {Γ : gk_G} {a0 : Option Nat} {M : gk_M} {ρ : gk_M} (h : fn_Record_init a0 M = some ρ) : gk_Met l gk_Y Γ y_Record_init (.code y_Record_init c_Record_init 1 none :: gk_Y.2.2.2) rm_Record_init [va_rf a0] M none ρ :=
  gk_start (by decide) (by simp [lg_sl, gk_rc, gk_ic, gk_jc]) [some (va_rf a0)] (by simp [gk_as, lv_args, gk_rc, gk_ic, gk_jc]) (fun p e s m args below meth c B hr hin => sn_Record_init_0 B hr hin h)
theorem d_Locator_init_0 : decode c_Locator_init 0 = .ok (.aload_n 0, 1) := by decide +kernel
theorem d_Locator_init_1 : decode c_Locator_init 1 = .ok (.invokespecial 1, 3) := by decide +kernel
theorem d_Locator_init_4 : decode c_Locator_init 4 = .ok (.aload_n 0, 1) := by decide +kernel
theorem d_Locator_init_5 : decode c_Locator_init 5 = .ok (.iload_n 1, 1) := by decide +kernel
theorem d_Locator_init_6 : decode c_Locator_init 6 = .ok (.putfield 7, 3) := by decide +kernel
theorem d_Locator_init_9 : decode c_Locator_init 9 = .ok (.aload_n 0, 1) := by decide +kernel
theorem d_Locator_init_10 : decode c_Locator_init 10 = .ok (.aload_n 2, 1) := by decide +kernel
theorem d_Locator_init_11 : decode c_Locator_init 11 = .ok (.putfield 13, 3) := by decide +kernel
theorem d_Locator_init_14 : decode c_Locator_init 14 = .ok (.aload_n 0, 1) := by decide +kernel
theorem d_Locator_init_15 : decode c_Locator_init 15 = .ok (.iload_n 3, 1) := by decide +kernel
theorem d_Locator_init_16 : decode c_Locator_init 16 = .ok (.putfield 17, 3) := by decide +kernel
theorem d_Locator_init_19 : decode c_Locator_init 19 = .ok (.return_, 1) := by decide +kernel
set_option maxHeartbeats 4000000 in
set_option maxRecDepth 100000 in
theorem sn_Locator_init_0 {l : Launch} {Γ : gk_G} {p : Program} {e : Env} {s : State} {m : MethodId} {args : Array Value} {below : List Frame} {meth : Method} {c : Code} (B : gk_B p s m args meth c gk_Y Γ c_Locator_init 4 "StageDispatcher$Locator") (hr : meth.sig.returnType = none) (hin : meth.name = "<init>") {ρ : gk_M}   {a0 : Option Nat} {x1 : Int32} {a2 : Option Nat} {x3 : Int32} {M : gk_M} (h : fn_Locator_init  a0 x1 a2 x3 M = some ρ) : Gk p l e rm_Locator_init s m args below meth c gk_Y Γ 4 (MQ below (gk_Q gk_Y Γ none ρ) args s rm_Locator_init.cells rm_Locator_init.slots (fun q => Γ.2.2 ≤ q)) 0 0 M 0 [some (va_rf a0), some (.int x1), some (va_rf a2), some (.int x3)] [] := by
  unfold fn_Locator_init at h
  refine Gk_aload_n (i := 0) (r := a0) B d_Locator_init_0 rfl rfl ?_
  obtain ⟨o1, g1, h⟩ := gk_bind h
  obtain ⟨w1, h1, h⟩ := gk_bind h
  refine Gk_callI (As := []) (rest := []) (st1 := []) (k1 := 0) (n1 := 0) B gk_hG d_Locator_init_1 (sn_Record_init h1) g1 rfl tw_450 tw_448 tw_449 tw_52 nm_Record_init rfl (by decide) ⟨by decide, by decide⟩ ⟨by decide, by decide⟩ rfl rfl rfl rfl ?_
  refine Gk_aload_n (i := 0) (r := a0) B d_Locator_init_4 rfl rfl ?_
  refine Gk_iload_n (i := 1) (x := x1) B d_Locator_init_5 rfl rfl ?_
  obtain ⟨M6, h6, h⟩ := gk_bind h
  refine Gk_putF (j := 0) (ty := .int) B hin d_Locator_init_6 in_Locator t_Locator t_Locator_ok n_Locator cl_Locator (by decide) tw_452 rfl rfl rfl rfl rfl rfl h6 ?_
  refine Gk_aload_n (i := 0) (r := a0) B d_Locator_init_9 rfl rfl ?_
  refine Gk_aload_n (i := 2) (r := a2) B d_Locator_init_10 rfl rfl ?_
  obtain ⟨M11, h11, h⟩ := gk_bind h
  refine Gk_putF (j := 1) (ty := (.object "StageDispatcher$Template")) B hin d_Locator_init_11 in_Locator t_Locator t_Locator_ok n_Locator cl_Locator (by decide) tw_455 rfl rfl rfl rfl (gk_nfo _ _) (gk_ffo _ _) h11 ?_
  refine Gk_aload_n (i := 0) (r := a0) B d_Locator_init_14 rfl rfl ?_
  refine Gk_iload_n (i := 3) (x := x3) B d_Locator_init_15 rfl rfl ?_
  obtain ⟨M16, h16, h⟩ := gk_bind h
  refine Gk_putF (j := 2) (ty := .int) B hin d_Locator_init_16 in_Locator t_Locator t_Locator_ok n_Locator cl_Locator (by decide) tw_457 rfl rfl rfl rfl rfl rfl h16 ?_
  cases h
  exact Gk_vret B hr d_Locator_init_19 (by decide) (by decide) rfl
theorem sn_Locator_init {l : Launch} {Γ : gk_G} {a0 : Option Nat} {x1 : Int32} {a2 : Option Nat} {x3 : Int32} {M : gk_M} {ρ : gk_M} (h : fn_Locator_init a0 x1 a2 x3 M = some ρ) : gk_Met l gk_Y Γ y_Locator_init (.code y_Locator_init c_Locator_init 4 none :: gk_Y.2.2.2) rm_Locator_init [va_rf a0, .int x1, va_rf a2, .int x3] M none ρ :=
  gk_start (by decide) (by simp [lg_sl, gk_rc, gk_ic, gk_jc]) [some (va_rf a0), some (.int x1), some (va_rf a2), some (.int x3)] (by simp [gk_as, lv_args, gk_rc, gk_ic, gk_jc]) (fun p e s m args below meth c B hr hin => sn_Locator_init_0 B hr hin h)
theorem d_Catalog_addLocator_0 : decode c_Catalog_addLocator 0 = .ok (.aload_n 0, 1) := by decide +kernel
theorem d_Catalog_addLocator_1 : decode c_Catalog_addLocator 1 = .ok (.getfield 25, 3) := by decide +kernel
theorem d_Catalog_addLocator_4 : decode c_Catalog_addLocator 4 = .ok (.aload_n 0, 1) := by decide +kernel
theorem d_Catalog_addLocator_5 : decode c_Catalog_addLocator 5 = .ok (.getfield 36, 3) := by decide +kernel
theorem d_Catalog_addLocator_8 : decode c_Catalog_addLocator 8 = .ok (.aload_n 1, 1) := by decide +kernel
theorem d_Catalog_addLocator_9 : decode c_Catalog_addLocator 9 = .ok (.aastore, 1) := by decide +kernel
theorem d_Catalog_addLocator_10 : decode c_Catalog_addLocator 10 = .ok (.aload_n 0, 1) := by decide +kernel
theorem d_Catalog_addLocator_11 : decode c_Catalog_addLocator 11 = .ok (.dup, 1) := by decide +kernel
theorem d_Catalog_addLocator_12 : decode c_Catalog_addLocator 12 = .ok (.getfield 36, 3) := by decide +kernel
theorem d_Catalog_addLocator_15 : decode c_Catalog_addLocator 15 = .ok (.iconst 1, 1) := by decide +kernel
theorem d_Catalog_addLocator_16 : decode c_Catalog_addLocator 16 = .ok (.iadd, 1) := by decide +kernel
theorem d_Catalog_addLocator_17 : decode c_Catalog_addLocator 17 = .ok (.putfield 36, 3) := by decide +kernel
theorem d_Catalog_addLocator_20 : decode c_Catalog_addLocator 20 = .ok (.aload_n 0, 1) := by decide +kernel
theorem d_Catalog_addLocator_21 : decode c_Catalog_addLocator 21 = .ok (.getfield 36, 3) := by decide +kernel
theorem d_Catalog_addLocator_24 : decode c_Catalog_addLocator 24 = .ok (.iconst 1, 1) := by decide +kernel
theorem d_Catalog_addLocator_25 : decode c_Catalog_addLocator 25 = .ok (.isub, 1) := by decide +kernel
theorem d_Catalog_addLocator_26 : decode c_Catalog_addLocator 26 = .ok (.ireturn, 1) := by decide +kernel
set_option maxHeartbeats 4000000 in
set_option maxRecDepth 100000 in
theorem sn_Catalog_addLocator_0 {l : Launch} {Γ : gk_G} {p : Program} {e : Env} {s : State} {m : MethodId} {args : Array Value} {below : List Frame} {meth : Method} {c : Code} (B : gk_B p s m args meth c gk_Y Γ c_Catalog_addLocator 2 "StageDispatcher$Catalog") (hr : meth.sig.returnType = (some .int)) {ρ : Int32 × gk_M}   {a0 : Option Nat} {a1 : Option Nat} {M : gk_M} (h : fn_Catalog_addLocator  a0 a1 M = some ρ) : Gk p l e rm_Catalog_addLocator s m args below meth c gk_Y Γ 2 (MQ below (gk_Q gk_Y Γ (some (.int ρ.1)) ρ.2) args s rm_Catalog_addLocator.cells rm_Catalog_addLocator.slots (fun q => Γ.2.2 ≤ q)) 0 0 M 0 [some (va_rf a0), some (va_rf a1)] [] := by
  unfold fn_Catalog_addLocator at h
  refine Gk_aload_n (i := 0) (r := a0) B d_Catalog_addLocator_0 rfl rfl ?_
  obtain ⟨v1, h1, h⟩ := gk_bind h
  refine Gk_getR (j := 2) B d_Catalog_addLocator_1 in_Catalog cl_Catalog (by decide) tw_102 rfl h1 ?_
  refine Gk_aload_n (i := 0) (r := a0) B d_Catalog_addLocator_4 rfl rfl ?_
  obtain ⟨v5, h5, h⟩ := gk_bind h
  refine Gk_getI (j := 5) B d_Catalog_addLocator_5 in_Catalog cl_Catalog (by decide) tw_110 rfl h5 ?_
  refine Gk_aload_n (i := 1) (r := a1) B d_Catalog_addLocator_8 rfl rfl ?_
  obtain ⟨M9, h9, h⟩ := gk_bind h
  refine Gk_aastore B d_Catalog_addLocator_9 ty_5 cl_Locator h9 ?_
  refine Gk_aload_n (i := 0) (r := a0) B d_Catalog_addLocator_10 rfl rfl ?_
  refine Gk_dup B d_Catalog_addLocator_11 (gk_rc _) ?_
  obtain ⟨v12, h12, h⟩ := gk_bind h
  refine Gk_getI (j := 5) B d_Catalog_addLocator_12 in_Catalog cl_Catalog (by decide) tw_110 rfl h12 ?_
  refine Gk_iconst (v := 1) B d_Catalog_addLocator_15 (by decide) ?_
  refine Gk_iadd B d_Catalog_addLocator_16 ?_
  obtain ⟨M17, h17, h⟩ := gk_bind h
  refine Gk_put (j := 5) (ty := .int) B d_Catalog_addLocator_17 in_Catalog t_Catalog t_Catalog_ok n_Catalog cl_Catalog (by decide) tw_110 rfl rfl rfl rfl rfl h17 ?_
  refine Gk_aload_n (i := 0) (r := a0) B d_Catalog_addLocator_20 rfl rfl ?_
  obtain ⟨v21, h21, h⟩ := gk_bind h
  refine Gk_getI (j := 5) B d_Catalog_addLocator_21 in_Catalog cl_Catalog (by decide) tw_110 rfl h21 ?_
  refine Gk_iconst (v := 1) B d_Catalog_addLocator_24 (by decide) ?_
  refine Gk_isub B d_Catalog_addLocator_25 ?_
  cases h
  exact Gk_iret B hr d_Catalog_addLocator_26 rfl (by decide) (by decide) rfl
theorem sn_Catalog_addLocator {l : Launch} {Γ : gk_G} {a0 : Option Nat} {a1 : Option Nat} {M : gk_M} {ρ : Int32 × gk_M} (h : fn_Catalog_addLocator a0 a1 M = some ρ) : gk_Met l gk_Y Γ y_Catalog_addLocator (.code y_Catalog_addLocator c_Catalog_addLocator 2 (some .int) :: gk_Y.2.2.2) rm_Catalog_addLocator [va_rf a0, va_rf a1] M (some (.int ρ.1)) ρ.2 :=
  gk_start (by decide) (by simp [lg_sl, gk_rc, gk_ic, gk_jc]) [some (va_rf a0), some (va_rf a1)] (by simp [gk_as, lv_args, gk_rc, gk_ic, gk_jc]) (fun p e s m args below meth c B hr hin => sn_Catalog_addLocator_0 B hr h)
theorem d_SD_locator_0 : decode c_SD_locator 0 = .ok (.aload_n 0, 1) := by decide +kernel
theorem d_SD_locator_1 : decode c_SD_locator 1 = .ok (.getfield 19, 3) := by decide +kernel
theorem d_SD_locator_4 : decode c_SD_locator 4 = .ok (.getfield 124, 3) := by decide +kernel
theorem d_SD_locator_7 : decode c_SD_locator 7 = .ok (.bipush 8, 2) := by decide +kernel
theorem d_SD_locator_9 : decode c_SD_locator 9 = .ok (.if_icmp .ge 39, 3) := by decide +kernel
theorem d_SD_locator_12 : decode c_SD_locator 12 = .ok (.aload_n 0, 1) := by decide +kernel
theorem d_SD_locator_13 : decode c_SD_locator 13 = .ok (.getfield 10, 3) := by decide +kernel
theorem d_SD_locator_16 : decode c_SD_locator 16 = .ok (.invokestatic 63, 3) := by decide +kernel
theorem d_SD_locator_19 : decode c_SD_locator 19 = .ok (.ifCond .eq 29, 3) := by decide +kernel
theorem d_SD_locator_22 : decode c_SD_locator 22 = .ok (.aload_n 0, 1) := by decide +kernel
theorem d_SD_locator_23 : decode c_SD_locator 23 = .ok (.getfield 19, 3) := by decide +kernel
theorem d_SD_locator_26 : decode c_SD_locator 26 = .ok (.iload_n 1, 1) := by decide +kernel
theorem d_SD_locator_27 : decode c_SD_locator 27 = .ok (.invokevirtual 85, 3) := by decide +kernel
theorem d_SD_locator_30 : decode c_SD_locator 30 = .ok (.ifCond .eq 18, 3) := by decide +kernel
theorem d_SD_locator_33 : decode c_SD_locator 33 = .ok (.aload_n 0, 1) := by decide +kernel
theorem d_SD_locator_34 : decode c_SD_locator 34 = .ok (.getfield 19, 3) := by decide +kernel
theorem d_SD_locator_37 : decode c_SD_locator 37 = .ok (.iload_n 2, 1) := by decide +kernel
theorem d_SD_locator_38 : decode c_SD_locator 38 = .ok (.invokevirtual 85, 3) := by decide +kernel
theorem d_SD_locator_41 : decode c_SD_locator 41 = .ok (.ifCond .eq 7, 3) := by decide +kernel
theorem d_SD_locator_44 : decode c_SD_locator 44 = .ok (.iconst 1, 1) := by decide +kernel
theorem d_SD_locator_45 : decode c_SD_locator 45 = .ok (.goto 4, 3) := by decide +kernel
theorem d_SD_locator_48 : decode c_SD_locator 48 = .ok (.iconst 0, 1) := by decide +kernel
theorem d_SD_locator_49 : decode c_SD_locator 49 = .ok (.istore_n 3, 1) := by decide +kernel
theorem d_SD_locator_50 : decode c_SD_locator 50 = .ok (.iload_n 3, 1) := by decide +kernel
theorem d_SD_locator_51 : decode c_SD_locator 51 = .ok (.ifCond .eq 33, 3) := by decide +kernel
theorem d_SD_locator_54 : decode c_SD_locator 54 = .ok (.aload_n 0, 1) := by decide +kernel
theorem d_SD_locator_55 : decode c_SD_locator 55 = .ok (.getfield 19, 3) := by decide +kernel
theorem d_SD_locator_58 : decode c_SD_locator 58 = .ok (.new 127, 3) := by decide +kernel
theorem d_SD_locator_61 : decode c_SD_locator 61 = .ok (.dup, 1) := by decide +kernel
theorem d_SD_locator_62 : decode c_SD_locator 62 = .ok (.iload_n 1, 1) := by decide +kernel
theorem d_SD_locator_63 : decode c_SD_locator 63 = .ok (.new 64, 3) := by decide +kernel
theorem d_SD_locator_66 : decode c_SD_locator 66 = .ok (.dup, 1) := by decide +kernel
theorem d_SD_locator_67 : decode c_SD_locator 67 = .ok (.aload_n 0, 1) := by decide +kernel
theorem d_SD_locator_68 : decode c_SD_locator 68 = .ok (.getfield 10, 3) := by decide +kernel
theorem d_SD_locator_71 : decode c_SD_locator 71 = .ok (.invokespecial 69, 3) := by decide +kernel
theorem d_SD_locator_74 : decode c_SD_locator 74 = .ok (.iload_n 2, 1) := by decide +kernel
theorem d_SD_locator_75 : decode c_SD_locator 75 = .ok (.invokespecial 129, 3) := by decide +kernel
theorem d_SD_locator_78 : decode c_SD_locator 78 = .ok (.invokevirtual 132, 3) := by decide +kernel
theorem d_SD_locator_81 : decode c_SD_locator 81 = .ok (.goto 4, 3) := by decide +kernel
theorem d_SD_locator_84 : decode c_SD_locator 84 = .ok (.iconst (-1), 1) := by decide +kernel
theorem d_SD_locator_85 : decode c_SD_locator 85 = .ok (.istore 4, 2) := by decide +kernel
theorem d_SD_locator_87 : decode c_SD_locator 87 = .ok (.aload_n 0, 1) := by decide +kernel
theorem d_SD_locator_88 : decode c_SD_locator 88 = .ok (.getfield 10, 3) := by decide +kernel
theorem d_SD_locator_91 : decode c_SD_locator 91 = .ok (.invokevirtual 76, 3) := by decide +kernel
theorem d_SD_locator_94 : decode c_SD_locator 94 = .ok (.iload 4, 2) := by decide +kernel
theorem d_SD_locator_96 : decode c_SD_locator 96 = .ok (.ireturn, 1) := by decide +kernel
set_option maxHeartbeats 4000000 in
set_option maxRecDepth 100000 in
theorem sn_SD_locator_85 {l : Launch} {Γ : gk_G} {p : Program} {e : Env} {s : State} {m : MethodId} {args : Array Value} {below : List Frame} {meth : Method} {c : Code} (B : gk_B p s m args meth c gk_Y Γ c_SD_locator 5 "StageDispatcher") (hr : meth.sig.returnType = (some .int)) {ρ : Int32 × gk_M}   {a0 : Option Nat} {s0 : Int32} {M : gk_M} (h : fn_SD_locator_85  a0 s0 M = some ρ) : Gk p l e rm_SD_locator s m args below meth c gk_Y Γ 5 (MQ below (gk_Q gk_Y Γ (some (.int ρ.1)) ρ.2) args s rm_SD_locator.cells rm_SD_locator.slots (fun q => Γ.2.2 ≤ q)) 3 32 M 85 [some (va_rf a0), none, none, none, none] [.int s0] := by
  unfold fn_SD_locator_85 at h
  refine Gk_istore (L' := [some (va_rf a0), none, none, none, some (.int s0)]) B d_SD_locator_85 (by decide) (gk_c1_n rfl) rfl ?_
  refine Gk_aload_n (i := 0) (r := a0) B d_SD_locator_87 rfl rfl ?_
  obtain ⟨v88, h88, h⟩ := gk_bind h
  refine Gk_getR (j := 0) B d_SD_locator_88 in_SD cl_SD (by decide) tw_278 rfl h88 ?_
  obtain ⟨o91, g91, h⟩ := gk_bind h
  obtain ⟨w91, h91, h⟩ := gk_bind h
  refine Gk_callV (As := []) (rest := []) (st1 := []) (k1 := 3) (n1 := 32) B gk_hG d_SD_locator_91 (sn_Text_clear h91) g91 cl_Text tw_362 tw_359 tw_360 tw_361 tw_41 nm_Text_clear rfl (by decide) ⟨by decide, by decide⟩ ⟨by decide, by decide⟩ rfl rfl rfl rfl ?_
  refine Gk_iload (x := s0) B d_SD_locator_94 rfl ?_
  cases h
  exact Gk_iret B hr d_SD_locator_96 rfl (by decide) (by decide) rfl
set_option maxHeartbeats 4000000 in
set_option maxRecDepth 100000 in
theorem sn_SD_locator_49 {l : Launch} {Γ : gk_G} {p : Program} {e : Env} {s : State} {m : MethodId} {args : Array Value} {below : List Frame} {meth : Method} {c : Code} (B : gk_B p s m args meth c gk_Y Γ c_SD_locator 5 "StageDispatcher") (hr : meth.sig.returnType = (some .int)) {ρ : Int32 × gk_M}   {a0 : Option Nat} {x1 : Int32} {x2 : Int32} {s0 : Int32} {M : gk_M} (h : fn_SD_locator_49  a0 x1 x2 s0 M = some ρ) : Gk p l e rm_SD_locator s m args below meth c gk_Y Γ 5 (MQ below (gk_Q gk_Y Γ (some (.int ρ.1)) ρ.2) args s rm_SD_locator.cells rm_SD_locator.slots (fun q => Γ.2.2 ≤ q)) 0 0 M 49 [some (va_rf a0), some (.int x1), some (.int x2), none, none] [.int s0] := by
  unfold fn_SD_locator_49 at h
  refine Gk_istore_n (i := 3) (L' := [some (va_rf a0), some (.int x1), some (.int x2), some (.int s0), none]) B d_SD_locator_49 rfl (by decide) (gk_c1_i rfl) rfl ?_
  refine Gk_iload_n (i := 3) (x := s0) B d_SD_locator_50 rfl rfl ?_
  refine Gk_if_eq (tgt := 84) B d_SD_locator_51 rfl (fun c51 => ?_) (fun c51 => ?_)
  · rw [if_pos c51] at h
    refine Gk_iconst (v := (-1)) B d_SD_locator_84 (by decide) ?_
    refine Gk_weak [true, false, false, false, false] (L' := [some (va_rf a0), none, none, none, none]) rfl ?_
    refine Gk_widen (k' := 3) (n' := 32) (by decide) (by decide) ?_
    exact sn_SD_locator_85 B hr h
  rw [if_neg c51] at h
  refine Gk_aload_n (i := 0) (r := a0) B d_SD_locator_54 rfl rfl ?_
  obtain ⟨v55, h55, h⟩ := gk_bind h
  refine Gk_getR (j := 1) B d_SD_locator_55 in_SD cl_SD (by decide) tw_279 rfl h55 ?_
  refine Gk_new B d_SD_locator_58 in_Locator t_Locator t_Locator_ok tw_443 tw_444 tw_53 cl_Locator df_Locator_ok (by decide) (by decide) ?_
  refine Gk_dup B d_SD_locator_61 (gk_rc _) ?_
  refine Gk_iload_n (i := 1) (x := x1) B d_SD_locator_62 rfl rfl ?_
  refine Gk_new B d_SD_locator_63 in_Template t_Template t_Template_ok tw_322 tw_323 tw_49 cl_Template df_Template_ok (by decide) (by decide) ?_
  refine Gk_dup B d_SD_locator_66 (gk_rc _) ?_
  refine Gk_aload_n (i := 0) (r := a0) B d_SD_locator_67 rfl rfl ?_
  obtain ⟨v68, h68, h⟩ := gk_bind h
  refine Gk_getR (j := 0) B d_SD_locator_68 in_SD cl_SD (by decide) tw_278 rfl h68 ?_
  obtain ⟨o71, g71, h⟩ := gk_bind h
  obtain ⟨w71, h71, h⟩ := gk_bind h
  refine Gk_callI (As := [va_rf v68]) (rest := [va_rf (some (gk_nw M (.inr (5, df_Locator))).2), .int x1, va_rf (some M.2), va_rf (some M.2), va_rf v55]) (st1 := [va_rf (some (gk_nw M (.inr (5, df_Locator))).2), .int x1, va_rf (some M.2), va_rf (some M.2), va_rf v55]) (k1 := 3) (n1 := 32) B gk_hG d_SD_locator_71 (sn_Template_init h71) g71 rfl tw_326 tw_324 tw_325 tw_49 nm_Template_init rfl (by simp [gk_rc, gk_ic, gk_jc, rm_SD_locator]) ⟨by decide, by decide⟩ ⟨by decide, by decide⟩ rfl rfl rfl rfl ?_
  refine Gk_iload_n (i := 2) (x := x2) B d_SD_locator_74 rfl rfl ?_
  obtain ⟨o75, g75, h⟩ := gk_bind h
  obtain ⟨w75, h75, h⟩ := gk_bind h
  refine Gk_callIN (As := [.int x1, va_rf (some (gk_nw M (.inr (5, df_Locator))).2), .int x2]) (rest := [va_rf (some M.2), va_rf v55]) (st1 := [va_rf (some M.2), va_rf v55]) (k1 := 3) (n1 := 32) B gk_hG d_SD_locator_75 (sn_Locator_init h75) g75 rfl tw_447 nw_445 tw_446 tw_53 nm_Locator_init rfl (by simp [gk_rc, gk_ic, gk_jc, rm_SD_locator]) ⟨by decide, by decide⟩ ⟨by decide, by decide⟩ rfl rfl rfl rfl ?_
  obtain ⟨o78, g78, h⟩ := gk_bind h
  obtain ⟨w78, h78, h⟩ := gk_bind h
  refine Gk_callV (As := [va_rf (some M.2)]) (rest := []) (st1 := [.int w78.1]) (k1 := 3) (n1 := 32) B gk_hG d_SD_locator_78 (sn_Catalog_addLocator h78) g78 cl_Catalog tw_469 tw_466 tw_467 tw_468 tw_42 nm_Catalog_addLocator rfl (by decide) ⟨by decide, by decide⟩ ⟨by decide, by decide⟩ rfl rfl rfl rfl ?_
  refine Gk_goto (tgt := 85) B d_SD_locator_81 rfl ?_
  refine Gk_weak [true, false, false, false, false] (L' := [some (va_rf a0), none, none, none, none]) rfl ?_
  exact sn_SD_locator_85 B hr h
set_option maxHeartbeats 4000000 in
set_option maxRecDepth 100000 in
theorem sn_SD_locator_48 {l : Launch} {Γ : gk_G} {p : Program} {e : Env} {s : State} {m : MethodId} {args : Array Value} {below : List Frame} {meth : Method} {c : Code} (B : gk_B p s m args meth c gk_Y Γ c_SD_locator 5 "StageDispatcher") (hr : meth.sig.returnType = (some .int)) {ρ : Int32 × gk_M}   {a0 : Option Nat} {x1 : Int32} {x2 : Int32} {M : gk_M} (h : fn_SD_locator_48  a0 x1 x2 M = some ρ) : Gk p l e rm_SD_locator s m args below meth c gk_Y Γ 5 (MQ below (gk_Q gk_Y Γ (some (.int ρ.1)) ρ.2) args s rm_SD_locator.cells rm_SD_locator.slots (fun q => Γ.2.2 ≤ q)) 0 0 M 48 [some (va_rf a0), some (.int x1), some (.int x2), none, none] [] := by
  unfold fn_SD_locator_48 at h
  refine Gk_iconst (v := 0) B d_SD_locator_48 (by decide) ?_
  exact sn_SD_locator_49 B hr h
set_option maxHeartbeats 4000000 in
set_option maxRecDepth 100000 in
theorem sn_SD_locator_0 {l : Launch} {Γ : gk_G} {p : Program} {e : Env} {s : State} {m : MethodId} {args : Array Value} {below : List Frame} {meth : Method} {c : Code} (B : gk_B p s m args meth c gk_Y Γ c_SD_locator 5 "StageDispatcher") (hr : meth.sig.returnType = (some .int)) {ρ : Int32 × gk_M}   {a0 : Option Nat} {x1 : Int32} {x2 : Int32} {M : gk_M} (h : fn_SD_locator  a0 x1 x2 M = some ρ) : Gk p l e rm_SD_locator s m args below meth c gk_Y Γ 5 (MQ below (gk_Q gk_Y Γ (some (.int ρ.1)) ρ.2) args s rm_SD_locator.cells rm_SD_locator.slots (fun q => Γ.2.2 ≤ q)) 0 0 M 0 [some (va_rf a0), some (.int x1), some (.int x2), none, none] [] := by
  unfold fn_SD_locator at h
  refine Gk_aload_n (i := 0) (r := a0) B d_SD_locator_0 rfl rfl ?_
  obtain ⟨v1, h1, h⟩ := gk_bind h
  refine Gk_getR (j := 1) B d_SD_locator_1 in_SD cl_SD (by decide) tw_279 rfl h1 ?_
  obtain ⟨v4, h4, h⟩ := gk_bind h
  refine Gk_getI (j := 5) B d_SD_locator_4 in_Catalog cl_Catalog (by decide) tw_112 rfl h4 ?_
  refine Gk_bipush (v := 8) B d_SD_locator_7 (by decide) ?_
  refine Gk_icmp_ge (tgt := 48) B d_SD_locator_9 rfl (fun c9 => ?_) (fun c9 => ?_)
  · rw [if_pos c9] at h
    exact sn_SD_locator_48 B hr h
  rw [if_neg c9] at h
  refine Gk_aload_n (i := 0) (r := a0) B d_SD_locator_12 rfl rfl ?_
  obtain ⟨v13, h13, h⟩ := gk_bind h
  refine Gk_getR (j := 0) B d_SD_locator_13 in_SD cl_SD (by decide) tw_278 rfl h13 ?_
  obtain ⟨w16, h16, h⟩ := gk_bind h
  refine Gk_callS (As := [va_rf v13]) (rest := []) (st1 := [.int w16.1]) (k1 := 0) (n1 := 0) B gk_hG d_SD_locator_16 (sn_Template_isGood h16) tw_314 tw_312 tw_313 tw_49 nm_Template_isGood rfl (by decide) ⟨by decide, by decide⟩ ⟨by decide, by decide⟩ rfl rfl rfl rfl ?_
  refine Gk_if_eq (tgt := 48) B d_SD_locator_19 rfl (fun c19 => ?_) (fun c19 => ?_)
  · rw [if_pos c19] at h
    exact sn_SD_locator_48 B hr h
  rw [if_neg c19] at h
  refine Gk_aload_n (i := 0) (r := a0) B d_SD_locator_22 rfl rfl ?_
  obtain ⟨v23, h23, h⟩ := gk_bind h
  refine Gk_getR (j := 1) B d_SD_locator_23 in_SD cl_SD (by decide) tw_279 rfl h23 ?_
  refine Gk_iload_n (i := 1) (x := x1) B d_SD_locator_26 rfl rfl ?_
  obtain ⟨o27, g27, h⟩ := gk_bind h
  obtain ⟨w27, h27, h⟩ := gk_bind h
  refine Gk_callV (As := [.int x1]) (rest := []) (st1 := [.int w27.1]) (k1 := 0) (n1 := 0) B gk_hG d_SD_locator_27 (sn_Catalog_isResource h27) g27 cl_Catalog tw_370 tw_367 tw_368 tw_369 tw_42 nm_Catalog_isResource rfl (by decide) ⟨by decide, by decide⟩ ⟨by decide, by decide⟩ rfl rfl rfl rfl ?_
  refine Gk_if_eq (tgt := 48) B d_SD_locator_30 rfl (fun c30 => ?_) (fun c30 => ?_)
  · rw [if_pos c30] at h
    exact sn_SD_locator_48 B hr h
  rw [if_neg c30] at h
  refine Gk_aload_n (i := 0) (r := a0) B d_SD_locator_33 rfl rfl ?_
  obtain ⟨v34, h34, h⟩ := gk_bind h
  refine Gk_getR (j := 1) B d_SD_locator_34 in_SD cl_SD (by decide) tw_279 rfl h34 ?_
  refine Gk_iload_n (i := 2) (x := x2) B d_SD_locator_37 rfl rfl ?_
  obtain ⟨o38, g38, h⟩ := gk_bind h
  obtain ⟨w38, h38, h⟩ := gk_bind h
  refine Gk_callV (As := [.int x2]) (rest := []) (st1 := [.int w38.1]) (k1 := 0) (n1 := 0) B gk_hG d_SD_locator_38 (sn_Catalog_isResource h38) g38 cl_Catalog tw_370 tw_367 tw_368 tw_369 tw_42 nm_Catalog_isResource rfl (by decide) ⟨by decide, by decide⟩ ⟨by decide, by decide⟩ rfl rfl rfl rfl ?_
  refine Gk_if_eq (tgt := 48) B d_SD_locator_41 rfl (fun c41 => ?_) (fun c41 => ?_)
  · rw [if_pos c41] at h
    exact sn_SD_locator_48 B hr h
  rw [if_neg c41] at h
  refine Gk_iconst (v := 1) B d_SD_locator_44 (by decide) ?_
  refine Gk_goto (tgt := 49) B d_SD_locator_45 rfl ?_
  exact sn_SD_locator_49 B hr h
theorem sn_SD_locator {l : Launch} {Γ : gk_G} {a0 : Option Nat} {x1 : Int32} {x2 : Int32} {M : gk_M} {ρ : Int32 × gk_M} (h : fn_SD_locator a0 x1 x2 M = some ρ) : gk_Met l gk_Y Γ y_SD_locator (.code y_SD_locator c_SD_locator 5 (some .int) :: gk_Y.2.2.2) rm_SD_locator [va_rf a0, .int x1, .int x2] M (some (.int ρ.1)) ρ.2 :=
  gk_start (by decide) (by simp [lg_sl, gk_rc, gk_ic, gk_jc]) [some (va_rf a0), some (.int x1), some (.int x2), none, none] (by simp [gk_as, lv_args, gk_rc, gk_ic, gk_jc]) (fun p e s m args below meth c B hr hin => sn_SD_locator_0 B hr h)
theorem d_Mo_locator_0 : decode c_Mo_locator 0 = .ok (.aload_n 0, 1) := by decide +kernel
theorem d_Mo_locator_1 : decode c_Mo_locator 1 = .ok (.getfield 118, 3) := by decide +kernel
theorem d_Mo_locator_4 : decode c_Mo_locator 4 = .ok (.ifCond .le 51, 3) := by decide +kernel
theorem d_Mo_locator_7 : decode c_Mo_locator 7 = .ok (.aload_n 0, 1) := by decide +kernel
theorem d_Mo_locator_8 : decode c_Mo_locator 8 = .ok (.invokevirtual 159, 3) := by decide +kernel
theorem d_Mo_locator_11 : decode c_Mo_locator 11 = .ok (.ifCond .eq 44, 3) := by decide +kernel
theorem d_Mo_locator_14 : decode c_Mo_locator 14 = .ok (.iload_n 1, 1) := by decide +kernel
theorem d_Mo_locator_15 : decode c_Mo_locator 15 = .ok (.iconst 0, 1) := by decide +kernel
theorem d_Mo_locator_16 : decode c_Mo_locator 16 = .ok (.aload_n 0, 1) := by decide +kernel
theorem d_Mo_locator_17 : decode c_Mo_locator 17 = .ok (.getfield 156, 3) := by decide +kernel
theorem d_Mo_locator_20 : decode c_Mo_locator 20 = .ok (.iconst 1, 1) := by decide +kernel
theorem d_Mo_locator_21 : decode c_Mo_locator 21 = .ok (.isub, 1) := by decide +kernel
theorem d_Mo_locator_22 : decode c_Mo_locator 22 = .ok (.invokestatic 167, 3) := by decide +kernel
theorem d_Mo_locator_25 : decode c_Mo_locator 25 = .ok (.ifCond .ne 30, 3) := by decide +kernel
theorem d_Mo_locator_28 : decode c_Mo_locator 28 = .ok (.iload_n 2, 1) := by decide +kernel
theorem d_Mo_locator_29 : decode c_Mo_locator 29 = .ok (.iconst 0, 1) := by decide +kernel
theorem d_Mo_locator_30 : decode c_Mo_locator 30 = .ok (.aload_n 0, 1) := by decide +kernel
theorem d_Mo_locator_31 : decode c_Mo_locator 31 = .ok (.getfield 156, 3) := by decide +kernel
theorem d_Mo_locator_34 : decode c_Mo_locator 34 = .ok (.iconst 1, 1) := by decide +kernel
theorem d_Mo_locator_35 : decode c_Mo_locator 35 = .ok (.isub, 1) := by decide +kernel
theorem d_Mo_locator_36 : decode c_Mo_locator 36 = .ok (.invokestatic 167, 3) := by decide +kernel
theorem d_Mo_locator_39 : decode c_Mo_locator 39 = .ok (.ifCond .ne 16, 3) := by decide +kernel
theorem d_Mo_locator_42 : decode c_Mo_locator 42 = .ok (.aload_n 0, 1) := by decide +kernel
theorem d_Mo_locator_43 : decode c_Mo_locator 43 = .ok (.getfield 178, 3) := by decide +kernel
theorem d_Mo_locator_46 : decode c_Mo_locator 46 = .ok (.bipush 8, 2) := by decide +kernel
theorem d_Mo_locator_48 : decode c_Mo_locator 48 = .ok (.if_icmp .ge 7, 3) := by decide +kernel
theorem d_Mo_locator_51 : decode c_Mo_locator 51 = .ok (.iconst 1, 1) := by decide +kernel
theorem d_Mo_locator_52 : decode c_Mo_locator 52 = .ok (.goto 4, 3) := by decide +kernel
theorem d_Mo_locator_55 : decode c_Mo_locator 55 = .ok (.iconst 0, 1) := by decide +kernel
theorem d_Mo_locator_56 : decode c_Mo_locator 56 = .ok (.istore_n 3, 1) := by decide +kernel
theorem d_Mo_locator_57 : decode c_Mo_locator 57 = .ok (.iload_n 3, 1) := by decide +kernel
theorem d_Mo_locator_58 : decode c_Mo_locator 58 = .ok (.ifCond .eq 45, 3) := by decide +kernel
theorem d_Mo_locator_61 : decode c_Mo_locator 61 = .ok (.aload_n 0, 1) := by decide +kernel
theorem d_Mo_locator_62 : decode c_Mo_locator 62 = .ok (.bipush 18, 2) := by decide +kernel
theorem d_Mo_locator_64 : decode c_Mo_locator 64 = .ok (.aload_n 0, 1) := by decide +kernel
theorem d_Mo_locator_65 : decode c_Mo_locator 65 = .ok (.getfield 178, 3) := by decide +kernel
theorem d_Mo_locator_68 : decode c_Mo_locator 68 = .ok (.iadd, 1) := by decide +kernel
theorem d_Mo_locator_69 : decode c_Mo_locator 69 = .ok (.iconst 1, 1) := by decide +kernel
theorem d_Mo_locator_70 : decode c_Mo_locator 70 = .ok (.invokevirtual 163, 3) := by decide +kernel
theorem d_Mo_locator_73 : decode c_Mo_locator 73 = .ok (.aload_n 0, 1) := by decide +kernel
theorem d_Mo_locator_74 : decode c_Mo_locator 74 = .ok (.getfield 44, 3) := by decide +kernel
theorem d_Mo_locator_77 : decode c_Mo_locator 77 = .ok (.aload_n 0, 1) := by decide +kernel
theorem d_Mo_locator_78 : decode c_Mo_locator 78 = .ok (.getfield 178, 3) := by decide +kernel
theorem d_Mo_locator_81 : decode c_Mo_locator 81 = .ok (.iload_n 1, 1) := by decide +kernel
theorem d_Mo_locator_82 : decode c_Mo_locator 82 = .ok (.iastore, 1) := by decide +kernel
theorem d_Mo_locator_83 : decode c_Mo_locator 83 = .ok (.aload_n 0, 1) := by decide +kernel
theorem d_Mo_locator_84 : decode c_Mo_locator 84 = .ok (.getfield 47, 3) := by decide +kernel
theorem d_Mo_locator_87 : decode c_Mo_locator 87 = .ok (.aload_n 0, 1) := by decide +kernel
theorem d_Mo_locator_88 : decode c_Mo_locator 88 = .ok (.getfield 178, 3) := by decide +kernel
theorem d_Mo_locator_91 : decode c_Mo_locator 91 = .ok (.iload_n 2, 1) := by decide +kernel
theorem d_Mo_locator_92 : decode c_Mo_locator 92 = .ok (.iastore, 1) := by decide +kernel
theorem d_Mo_locator_93 : decode c_Mo_locator 93 = .ok (.aload_n 0, 1) := by decide +kernel
theorem d_Mo_locator_94 : decode c_Mo_locator 94 = .ok (.dup, 1) := by decide +kernel
theorem d_Mo_locator_95 : decode c_Mo_locator 95 = .ok (.getfield 178, 3) := by decide +kernel
theorem d_Mo_locator_98 : decode c_Mo_locator 98 = .ok (.iconst 1, 1) := by decide +kernel
theorem d_Mo_locator_99 : decode c_Mo_locator 99 = .ok (.iadd, 1) := by decide +kernel
theorem d_Mo_locator_100 : decode c_Mo_locator 100 = .ok (.putfield 178, 3) := by decide +kernel
theorem d_Mo_locator_103 : decode c_Mo_locator 103 = .ok (.aload_n 0, 1) := by decide +kernel
theorem d_Mo_locator_104 : decode c_Mo_locator 104 = .ok (.iconst 0, 1) := by decide +kernel
theorem d_Mo_locator_105 : decode c_Mo_locator 105 = .ok (.putfield 118, 3) := by decide +kernel
theorem d_Mo_locator_108 : decode c_Mo_locator 108 = .ok (.iload_n 3, 1) := by decide +kernel
theorem d_Mo_locator_109 : decode c_Mo_locator 109 = .ok (.ifCond .eq 12, 3) := by decide +kernel
theorem d_Mo_locator_112 : decode c_Mo_locator 112 = .ok (.aload_n 0, 1) := by decide +kernel
theorem d_Mo_locator_113 : decode c_Mo_locator 113 = .ok (.getfield 178, 3) := by decide +kernel
theorem d_Mo_locator_116 : decode c_Mo_locator 116 = .ok (.iconst 1, 1) := by decide +kernel
theorem d_Mo_locator_117 : decode c_Mo_locator 117 = .ok (.isub, 1) := by decide +kernel
theorem d_Mo_locator_118 : decode c_Mo_locator 118 = .ok (.goto 4, 3) := by decide +kernel
theorem d_Mo_locator_121 : decode c_Mo_locator 121 = .ok (.iconst (-1), 1) := by decide +kernel
theorem d_Mo_locator_122 : decode c_Mo_locator 122 = .ok (.ireturn, 1) := by decide +kernel
set_option maxHeartbeats 4000000 in
set_option maxRecDepth 100000 in
theorem sn_Mo_locator_103 {l : Launch} {Γ : gk_G} {p : Program} {e : Env} {s : State} {m : MethodId} {args : Array Value} {below : List Frame} {meth : Method} {c : Code} (B : gk_B p s m args meth c gk_Y Γ c_Mo_locator 4 "StageDispatcherModel") (hr : meth.sig.returnType = (some .int)) {ρ : Int32 × gk_M}   {a0 : Option Nat} {x3 : Int32} {M : gk_M} (h : fn_Mo_locator_103  a0 x3 M = some ρ) : Gk p l e rm_Mo_locator s m args below meth c gk_Y Γ 4 (MQ below (gk_Q gk_Y Γ (some (.int ρ.1)) ρ.2) args s rm_Mo_locator.cells rm_Mo_locator.slots (fun q => Γ.2.2 ≤ q)) 0 0 M 103 [some (va_rf a0), none, none, some (.int x3)] [] := by
  unfold fn_Mo_locator_103 at h
  refine Gk_aload_n (i := 0) (r := a0) B d_Mo_locator_103 rfl rfl ?_
  refine Gk_iconst (v := 0) B d_Mo_locator_104 (by decide) ?_
  obtain ⟨M105, h105, h⟩ := gk_bind h
  refine Gk_put (j := 1) (ty := .int) B d_Mo_locator_105 in_Mo t_Mo t_Mo_ok n_Mo cl_Mo (by decide) tw_756 rfl rfl rfl rfl rfl h105 ?_
  refine Gk_iload_n (i := 3) (x := x3) B d_Mo_locator_108 rfl rfl ?_
  refine Gk_if_eq (tgt := 121) B d_Mo_locator_109 rfl (fun c109 => ?_) (fun c109 => ?_)
  · rw [if_pos c109] at h
    refine Gk_iconst (v := (-1)) B d_Mo_locator_121 (by decide) ?_
    cases h
    exact Gk_iret B hr d_Mo_locator_122 rfl (by decide) (by decide) rfl
  rw [if_neg c109] at h
  refine Gk_aload_n (i := 0) (r := a0) B d_Mo_locator_112 rfl rfl ?_
  obtain ⟨v113, h113, h⟩ := gk_bind h
  refine Gk_getI (j := 14) B d_Mo_locator_113 in_Mo cl_Mo (by decide) tw_769 rfl h113 ?_
  refine Gk_iconst (v := 1) B d_Mo_locator_116 (by decide) ?_
  refine Gk_isub B d_Mo_locator_117 ?_
  refine Gk_goto (tgt := 122) B d_Mo_locator_118 rfl ?_
  cases h
  exact Gk_iret B hr d_Mo_locator_122 rfl (by decide) (by decide) rfl
set_option maxHeartbeats 4000000 in
set_option maxRecDepth 100000 in
theorem sn_Mo_locator_56 {l : Launch} {Γ : gk_G} {p : Program} {e : Env} {s : State} {m : MethodId} {args : Array Value} {below : List Frame} {meth : Method} {c : Code} (B : gk_B p s m args meth c gk_Y Γ c_Mo_locator 4 "StageDispatcherModel") (hr : meth.sig.returnType = (some .int)) {ρ : Int32 × gk_M}   {a0 : Option Nat} {x1 : Int32} {x2 : Int32} {s0 : Int32} {M : gk_M} (h : fn_Mo_locator_56  a0 x1 x2 s0 M = some ρ) : Gk p l e rm_Mo_locator s m args below meth c gk_Y Γ 4 (MQ below (gk_Q gk_Y Γ (some (.int ρ.1)) ρ.2) args s rm_Mo_locator.cells rm_Mo_locator.slots (fun q => Γ.2.2 ≤ q)) 0 0 M 56 [some (va_rf a0), some (.int x1), some (.int x2), none] [.int s0] := by
  unfold fn_Mo_locator_56 at h
  refine Gk_istore_n (i := 3) (L' := [some (va_rf a0), some (.int x1), some (.int x2), some (.int s0)]) B d_Mo_locator_56 rfl (by decide) (gk_c1_i rfl) rfl ?_
  refine Gk_iload_n (i := 3) (x := s0) B d_Mo_locator_57 rfl rfl ?_
  refine Gk_if_eq (tgt := 103) B d_Mo_locator_58 rfl (fun c58 => ?_) (fun c58 => ?_)
  · rw [if_pos c58] at h
    refine Gk_weak [true, false, false, true] (L' := [some (va_rf a0), none, none, some (.int s0)]) rfl ?_
    exact sn_Mo_locator_103 B hr h
  rw [if_neg c58] at h
  refine Gk_aload_n (i := 0) (r := a0) B d_Mo_locator_61 rfl rfl ?_
  refine Gk_bipush (v := 18) B d_Mo_locator_62 (by decide) ?_
  refine Gk_aload_n (i := 0) (r := a0) B d_Mo_locator_64 rfl rfl ?_
  obtain ⟨v65, h65, h⟩ := gk_bind h
  refine Gk_getI (j := 14) B d_Mo_locator_65 in_Mo cl_Mo (by decide) tw_769 rfl h65 ?_
  refine Gk_iadd B d_Mo_locator_68 ?_
  refine Gk_iconst (v := 1) B d_Mo_locator_69 (by decide) ?_
  obtain ⟨o70, g70, h⟩ := gk_bind h
  obtain ⟨w70, h70, h⟩ := gk_bind h
  refine Gk_callV (As := [.int ((18 : Int32) + v65), .int 1]) (rest := []) (st1 := []) (k1 := 0) (n1 := 0) B gk_hG d_Mo_locator_70 (sn_Mo_keep h70) g70 cl_Mo tw_947 tw_944 tw_946 tw_15 tw_48 nm_Mo_keep rfl (by decide) ⟨by decide, by decide⟩ ⟨by decide, by decide⟩ rfl rfl rfl rfl ?_
  refine Gk_aload_n (i := 0) (r := a0) B d_Mo_locator_73 rfl rfl ?_
  obtain ⟨v74, h74, h⟩ := gk_bind h
  refine Gk_getR (j := 15) B d_Mo_locator_74 in_Mo cl_Mo (by decide) tw_770 rfl h74 ?_
  refine Gk_aload_n (i := 0) (r := a0) B d_Mo_locator_77 rfl rfl ?_
  obtain ⟨v78, h78, h⟩ := gk_bind h
  refine Gk_getI (j := 14) B d_Mo_locator_78 in_Mo cl_Mo (by decide) tw_769 rfl h78 ?_
  refine Gk_iload_n (i := 1) (x := x1) B d_Mo_locator_81 rfl rfl ?_
  obtain ⟨M82, h82, h⟩ := gk_bind h
  refine Gk_iastore B d_Mo_locator_82 ty_0 h82 ?_
  refine Gk_aload_n (i := 0) (r := a0) B d_Mo_locator_83 rfl rfl ?_
  obtain ⟨v84, h84, h⟩ := gk_bind h
  refine Gk_getR (j := 16) B d_Mo_locator_84 in_Mo cl_Mo (by decide) tw_771 rfl h84 ?_
  refine Gk_aload_n (i := 0) (r := a0) B d_Mo_locator_87 rfl rfl ?_
  obtain ⟨v88, h88, h⟩ := gk_bind h
  refine Gk_getI (j := 14) B d_Mo_locator_88 in_Mo cl_Mo (by decide) tw_769 rfl h88 ?_
  refine Gk_iload_n (i := 2) (x := x2) B d_Mo_locator_91 rfl rfl ?_
  obtain ⟨M92, h92, h⟩ := gk_bind h
  refine Gk_iastore B d_Mo_locator_92 ty_0 h92 ?_
  refine Gk_aload_n (i := 0) (r := a0) B d_Mo_locator_93 rfl rfl ?_
  refine Gk_dup B d_Mo_locator_94 (gk_rc _) ?_
  obtain ⟨v95, h95, h⟩ := gk_bind h
  refine Gk_getI (j := 14) B d_Mo_locator_95 in_Mo cl_Mo (by decide) tw_769 rfl h95 ?_
  refine Gk_iconst (v := 1) B d_Mo_locator_98 (by decide) ?_
  refine Gk_iadd B d_Mo_locator_99 ?_
  obtain ⟨M100, h100, h⟩ := gk_bind h
  refine Gk_put (j := 14) (ty := .int) B d_Mo_locator_100 in_Mo t_Mo t_Mo_ok n_Mo cl_Mo (by decide) tw_769 rfl rfl rfl rfl rfl h100 ?_
  refine Gk_weak [true, false, false, true] (L' := [some (va_rf a0), none, none, some (.int s0)]) rfl ?_
  exact sn_Mo_locator_103 B hr h
set_option maxHeartbeats 4000000 in
set_option maxRecDepth 100000 in
theorem sn_Mo_locator_55 {l : Launch} {Γ : gk_G} {p : Program} {e : Env} {s : State} {m : MethodId} {args : Array Value} {below : List Frame} {meth : Method} {c : Code} (B : gk_B p s m args meth c gk_Y Γ c_Mo_locator 4 "StageDispatcherModel") (hr : meth.sig.returnType = (some .int)) {ρ : Int32 × gk_M}   {a0 : Option Nat} {x1 : Int32} {x2 : Int32} {M : gk_M} (h : fn_Mo_locator_55  a0 x1 x2 M = some ρ) : Gk p l e rm_Mo_locator s m args below meth c gk_Y Γ 4 (MQ below (gk_Q gk_Y Γ (some (.int ρ.1)) ρ.2) args s rm_Mo_locator.cells rm_Mo_locator.slots (fun q => Γ.2.2 ≤ q)) 0 0 M 55 [some (va_rf a0), some (.int x1), some (.int x2), none] [] := by
  unfold fn_Mo_locator_55 at h
  refine Gk_iconst (v := 0) B d_Mo_locator_55 (by decide) ?_
  exact sn_Mo_locator_56 B hr h
set_option maxHeartbeats 4000000 in
set_option maxRecDepth 100000 in
theorem sn_Mo_locator_0 {l : Launch} {Γ : gk_G} {p : Program} {e : Env} {s : State} {m : MethodId} {args : Array Value} {below : List Frame} {meth : Method} {c : Code} (B : gk_B p s m args meth c gk_Y Γ c_Mo_locator 4 "StageDispatcherModel") (hr : meth.sig.returnType = (some .int)) {ρ : Int32 × gk_M}   {a0 : Option Nat} {x1 : Int32} {x2 : Int32} {M : gk_M} (h : fn_Mo_locator  a0 x1 x2 M = some ρ) : Gk p l e rm_Mo_locator s m args below meth c gk_Y Γ 4 (MQ below (gk_Q gk_Y Γ (some (.int ρ.1)) ρ.2) args s rm_Mo_locator.cells rm_Mo_locator.slots (fun q => Γ.2.2 ≤ q)) 0 0 M 0 [some (va_rf a0), some (.int x1), some (.int x2), none] [] := by
  unfold fn_Mo_locator at h
  refine Gk_aload_n (i := 0) (r := a0) B d_Mo_locator_0 rfl rfl ?_
  obtain ⟨v1, h1, h⟩ := gk_bind h
  refine Gk_getI (j := 1) B d_Mo_locator_1 in_Mo cl_Mo (by decide) tw_756 rfl h1 ?_
  refine Gk_if_le (tgt := 55) B d_Mo_locator_4 rfl (fun c4 => ?_) (fun c4 => ?_)
  · rw [if_pos c4] at h
    exact sn_Mo_locator_55 B hr h
  rw [if_neg c4] at h
  refine Gk_aload_n (i := 0) (r := a0) B d_Mo_locator_7 rfl rfl ?_
  obtain ⟨o8, g8, h⟩ := gk_bind h
  obtain ⟨w8, h8, h⟩ := gk_bind h
  refine Gk_callV (As := []) (rest := []) (st1 := [.int w8.1]) (k1 := 0) (n1 := 0) B gk_hG d_Mo_locator_8 (sn_Mo_goodTemplate h8) g8 cl_Mo tw_939 tw_936 tw_938 tw_13 tw_48 nm_Mo_goodTemplate rfl (by decide) ⟨by decide, by decide⟩ ⟨by decide, by decide⟩ rfl rfl rfl rfl ?_
  refine Gk_if_eq (tgt := 55) B d_Mo_locator_11 rfl (fun c11 => ?_) (fun c11 => ?_)
  · rw [if_pos c11] at h
    exact sn_Mo_locator_55 B hr h
  rw [if_neg c11] at h
  refine Gk_iload_n (i := 1) (x := x1) B d_Mo_locator_14 rfl rfl ?_
  refine Gk_iconst (v := 0) B d_Mo_locator_15 (by decide) ?_
  refine Gk_aload_n (i := 0) (r := a0) B d_Mo_locator_16 rfl rfl ?_
  obtain ⟨v17, h17, h⟩ := gk_bind h
  refine Gk_getI (j := 4) B d_Mo_locator_17 in_Mo cl_Mo (by decide) tw_759 rfl h17 ?_
  refine Gk_iconst (v := 1) B d_Mo_locator_20 (by decide) ?_
  refine Gk_isub B d_Mo_locator_21 ?_
  obtain ⟨w22, h22, h⟩ := gk_bind h
  refine Gk_callS (As := [.int x1, .int 0, .int (v17 - (1 : Int32))]) (rest := []) (st1 := [.int w22.1]) (k1 := 0) (n1 := 0) B gk_hG d_Mo_locator_22 (sn_Mo_outside h22) tw_954 tw_952 tw_953 tw_48 nm_Mo_outside rfl (by decide) ⟨by decide, by decide⟩ ⟨by decide, by decide⟩ rfl rfl rfl rfl ?_
  refine Gk_if_ne (tgt := 55) B d_Mo_locator_25 rfl (fun c25 => ?_) (fun c25 => ?_)
  · rw [if_neg c25] at h
    exact sn_Mo_locator_55 B hr h
  rw [if_pos c25] at h
  refine Gk_iload_n (i := 2) (x := x2) B d_Mo_locator_28 rfl rfl ?_
  refine Gk_iconst (v := 0) B d_Mo_locator_29 (by decide) ?_
  refine Gk_aload_n (i := 0) (r := a0) B d_Mo_locator_30 rfl rfl ?_
  obtain ⟨v31, h31, h⟩ := gk_bind h
  refine Gk_getI (j := 4) B d_Mo_locator_31 in_Mo cl_Mo (by decide) tw_759 rfl h31 ?_
  refine Gk_iconst (v := 1) B d_Mo_locator_34 (by decide) ?_
  refine Gk_isub B d_Mo_locator_35 ?_
  obtain ⟨w36, h36, h⟩ := gk_bind h
  refine Gk_callS (As := [.int x2, .int 0, .int (v31 - (1 : Int32))]) (rest := []) (st1 := [.int w36.1]) (k1 := 0) (n1 := 0) B gk_hG d_Mo_locator_36 (sn_Mo_outside h36) tw_954 tw_952 tw_953 tw_48 nm_Mo_outside rfl (by decide) ⟨by decide, by decide⟩ ⟨by decide, by decide⟩ rfl rfl rfl rfl ?_
  refine Gk_if_ne (tgt := 55) B d_Mo_locator_39 rfl (fun c39 => ?_) (fun c39 => ?_)
  · rw [if_neg c39] at h
    exact sn_Mo_locator_55 B hr h
  rw [if_pos c39] at h
  refine Gk_aload_n (i := 0) (r := a0) B d_Mo_locator_42 rfl rfl ?_
  obtain ⟨v43, h43, h⟩ := gk_bind h
  refine Gk_getI (j := 14) B d_Mo_locator_43 in_Mo cl_Mo (by decide) tw_769 rfl h43 ?_
  refine Gk_bipush (v := 8) B d_Mo_locator_46 (by decide) ?_
  refine Gk_icmp_ge (tgt := 55) B d_Mo_locator_48 rfl (fun c48 => ?_) (fun c48 => ?_)
  · rw [if_pos c48] at h
    exact sn_Mo_locator_55 B hr h
  rw [if_neg c48] at h
  refine Gk_iconst (v := 1) B d_Mo_locator_51 (by decide) ?_
  refine Gk_goto (tgt := 56) B d_Mo_locator_52 rfl ?_
  exact sn_Mo_locator_56 B hr h
theorem sn_Mo_locator {l : Launch} {Γ : gk_G} {a0 : Option Nat} {x1 : Int32} {x2 : Int32} {M : gk_M} {ρ : Int32 × gk_M} (h : fn_Mo_locator a0 x1 x2 M = some ρ) : gk_Met l gk_Y Γ y_Mo_locator (.code y_Mo_locator c_Mo_locator 4 (some .int) :: gk_Y.2.2.2) rm_Mo_locator [va_rf a0, .int x1, .int x2] M (some (.int ρ.1)) ρ.2 :=
  gk_start (by decide) (by simp [lg_sl, gk_rc, gk_ic, gk_jc]) [some (va_rf a0), some (.int x1), some (.int x2), none] (by simp [gk_as, lv_args, gk_rc, gk_ic, gk_jc]) (fun p e s m args below meth c B hr hin => sn_Mo_locator_0 B hr h)
theorem d_SD_isStatus_0 : decode c_SD_isStatus 0 = .ok (.iload_n 0, 1) := by decide +kernel
theorem d_SD_isStatus_1 : decode c_SD_isStatus 1 = .ok (.bipush 100, 2) := by decide +kernel
theorem d_SD_isStatus_3 : decode c_SD_isStatus 3 = .ok (.sipush 599, 3) := by decide +kernel
theorem d_SD_isStatus_6 : decode c_SD_isStatus 6 = .ok (.invokestatic 95, 3) := by decide +kernel
theorem d_SD_isStatus_9 : decode c_SD_isStatus 9 = .ok (.ireturn, 1) := by decide +kernel
set_option maxHeartbeats 4000000 in
set_option maxRecDepth 100000 in
theorem sn_SD_isStatus_0 {l : Launch} {Γ : gk_G} {p : Program} {e : Env} {s : State} {m : MethodId} {args : Array Value} {below : List Frame} {meth : Method} {c : Code} (B : gk_B p s m args meth c gk_Y Γ c_SD_isStatus 1 "StageDispatcher") (hr : meth.sig.returnType = (some .boolean)) {ρ : Int32 × gk_M}   {x0 : Int32} {M : gk_M} (h : fn_SD_isStatus  x0 M = some ρ) : Gk p l e rm_SD_isStatus s m args below meth c gk_Y Γ 1 (MQ below (gk_Q gk_Y Γ (some (.int ρ.1)) ρ.2) args s rm_SD_isStatus.cells rm_SD_isStatus.slots (fun q => Γ.2.2 ≤ q)) 0 0 M 0 [some (.int x0)] [] := by
  unfold fn_SD_isStatus at h
  refine Gk_iload_n (i := 0) (x := x0) B d_SD_isStatus_0 rfl rfl ?_
  refine Gk_bipush (v := 100) B d_SD_isStatus_1 (by decide) ?_
  refine Gk_sipush (v := 599) B d_SD_isStatus_3 (by decide) ?_
  obtain ⟨w6, h6, h⟩ := gk_bind h
  refine Gk_callS (As := [.int x0, .int 100, .int 599]) (rest := []) (st1 := [.int w6.1]) (k1 := 0) (n1 := 0) B gk_hG d_SD_isStatus_6 (sn_SD_isWithin h6) tw_373 tw_377 tw_372 tw_40 nm_SD_isWithin rfl (by decide) ⟨by decide, by decide⟩ ⟨by decide, by decide⟩ rfl rfl rfl rfl ?_
  obtain ⟨z, hz, h⟩ := gk_bind h
  obtain ⟨hz1, hz2⟩ := gk_z_eq hz
  cases h
  subst hz1
  exact Gk_iret B hr d_SD_isStatus_9 (gk_nz hz2) (by decide) (by decide) rfl
theorem sn_SD_isStatus {l : Launch} {Γ : gk_G} {x0 : Int32} {M : gk_M} {ρ : Int32 × gk_M} (h : fn_SD_isStatus x0 M = some ρ) : gk_Met l gk_Y Γ y_SD_isStatus (.code y_SD_isStatus c_SD_isStatus 1 (some .boolean) :: gk_Y.2.2.2) rm_SD_isStatus [.int x0] M (some (.int ρ.1)) ρ.2 :=
  gk_start (by decide) (by simp [lg_sl, gk_rc, gk_ic, gk_jc]) [some (.int x0)] (by simp [gk_as, lv_args, gk_rc, gk_ic, gk_jc]) (fun p e s m args below meth c B hr hin => sn_SD_isStatus_0 B hr h)
theorem d_Filter_init_0 : decode c_Filter_init 0 = .ok (.aload_n 0, 1) := by decide +kernel
theorem d_Filter_init_1 : decode c_Filter_init 1 = .ok (.invokespecial 1, 3) := by decide +kernel
theorem d_Filter_init_4 : decode c_Filter_init 4 = .ok (.aload_n 0, 1) := by decide +kernel
theorem d_Filter_init_5 : decode c_Filter_init 5 = .ok (.iload_n 1, 1) := by decide +kernel
theorem d_Filter_init_6 : decode c_Filter_init 6 = .ok (.putfield 7, 3) := by decide +kernel
theorem d_Filter_init_9 : decode c_Filter_init 9 = .ok (.aload_n 0, 1) := by decide +kernel
theorem d_Filter_init_10 : decode c_Filter_init 10 = .ok (.iload_n 2, 1) := by decide +kernel
theorem d_Filter_init_11 : decode c_Filter_init 11 = .ok (.putfield 13, 3) := by decide +kernel
theorem d_Filter_init_14 : decode c_Filter_init 14 = .ok (.aload_n 0, 1) := by decide +kernel
theorem d_Filter_init_15 : decode c_Filter_init 15 = .ok (.iload_n 3, 1) := by decide +kernel
theorem d_Filter_init_16 : decode c_Filter_init 16 = .ok (.putfield 16, 3) := by decide +kernel
theorem d_Filter_init_19 : decode c_Filter_init 19 = .ok (.aload_n 0, 1) := by decide +kernel
theorem d_Filter_init_20 : decode c_Filter_init 20 = .ok (.iload 4, 2) := by decide +kernel
theorem d_Filter_init_22 : decode c_Filter_init 22 = .ok (.putfield 19, 3) := by decide +kernel
theorem d_Filter_init_25 : decode c_Filter_init 25 = .ok (.aload_n 0, 1) := by decide +kernel
theorem d_Filter_init_26 : decode c_Filter_init 26 = .ok (.iload 5, 2) := by decide +kernel
theorem d_Filter_init_28 : decode c_Filter_init 28 = .ok (.putfield 22, 3) := by decide +kernel
theorem d_Filter_init_31 : decode c_Filter_init 31 = .ok (.return_, 1) := by decide +kernel
set_option maxHeartbeats 4000000 in
set_option maxRecDepth 100000 in
theorem sn_Filter_init_0 {l : Launch} {Γ : gk_G} {p : Program} {e : Env} {s : State} {m : MethodId} {args : Array Value} {below : List Frame} {meth : Method} {c : Code} (B : gk_B p s m args meth c gk_Y Γ c_Filter_init 6 "StageDispatcher$Filter") (hr : meth.sig.returnType = none) (hin : meth.name = "<init>") {ρ : gk_M}   {a0 : Option Nat} {x1 : Int32} {x2 : Int32} {x3 : Int32} {x4 : Int32} {x5 : Int32} {M : gk_M} (h : fn_Filter_init  a0 x1 x2 x3 x4 x5 M = some ρ) : Gk p l e rm_Filter_init s m args below meth c gk_Y Γ 6 (MQ below (gk_Q gk_Y Γ none ρ) args s rm_Filter_init.cells rm_Filter_init.slots (fun q => Γ.2.2 ≤ q)) 0 0 M 0 [some (va_rf a0), some (.int x1), some (.int x2), some (.int x3), some (.int x4), some (.int x5)] [] := by
  unfold fn_Filter_init at h
  refine Gk_aload_n (i := 0) (r := a0) B d_Filter_init_0 rfl rfl ?_
  obtain ⟨o1, g1, h⟩ := gk_bind h
  obtain ⟨w1, h1, h⟩ := gk_bind h
  refine Gk_callI (As := []) (rest := []) (st1 := []) (k1 := 0) (n1 := 0) B gk_hG d_Filter_init_1 (sn_Record_init h1) g1 rfl tw_450 tw_482 tw_449 tw_52 nm_Record_init rfl (by decide) ⟨by decide, by decide⟩ ⟨by decide, by decide⟩ rfl rfl rfl rfl ?_
  refine Gk_aload_n (i := 0) (r := a0) B d_Filter_init_4 rfl rfl ?_
  refine Gk_iload_n (i := 1) (x := x1) B d_Filter_init_5 rfl rfl ?_
  obtain ⟨M6, h6, h⟩ := gk_bind h
  refine Gk_putF (j := 0) (ty := .int) B hin d_Filter_init_6 in_Filter t_Filter t_Filter_ok n_Filter cl_Filter (by decide) tw_483 rfl rfl rfl rfl rfl rfl h6 ?_
  refine Gk_aload_n (i := 0) (r := a0) B d_Filter_init_9 rfl rfl ?_
  refine Gk_iload_n (i := 2) (x := x2) B d_Filter_init_10 rfl rfl ?_
  obtain ⟨M11, h11, h⟩ := gk_bind h
  refine Gk_putF (j := 1) (ty := .int) B hin d_Filter_init_11 in_Filter t_Filter t_Filter_ok n_Filter cl_Filter (by decide) tw_485 rfl rfl rfl rfl rfl rfl h11 ?_
  refine Gk_aload_n (i := 0) (r := a0) B d_Filter_init_14 rfl rfl ?_
  refine Gk_iload_n (i := 3) (x := x3) B d_Filter_init_15 rfl rfl ?_
  obtain ⟨M16, h16, h⟩ := gk_bind h
  refine Gk_putF (j := 2) (ty := .int) B hin d_Filter_init_16 in_Filter t_Filter t_Filter_ok n_Filter cl_Filter (by decide) tw_487 rfl rfl rfl rfl rfl rfl h16 ?_
  refine Gk_aload_n (i := 0) (r := a0) B d_Filter_init_19 rfl rfl ?_
  refine Gk_iload (x := x4) B d_Filter_init_20 rfl ?_
  obtain ⟨M22, h22, h⟩ := gk_bind h
  refine Gk_putF (j := 3) (ty := .int) B hin d_Filter_init_22 in_Filter t_Filter t_Filter_ok n_Filter cl_Filter (by decide) tw_489 rfl rfl rfl rfl rfl rfl h22 ?_
  refine Gk_aload_n (i := 0) (r := a0) B d_Filter_init_25 rfl rfl ?_
  refine Gk_iload (x := x5) B d_Filter_init_26 rfl ?_
  obtain ⟨M28, h28, h⟩ := gk_bind h
  refine Gk_putF (j := 4) (ty := .int) B hin d_Filter_init_28 in_Filter t_Filter t_Filter_ok n_Filter cl_Filter (by decide) tw_491 rfl rfl rfl rfl rfl rfl h28 ?_
  cases h
  exact Gk_vret B hr d_Filter_init_31 (by decide) (by decide) rfl
theorem sn_Filter_init {l : Launch} {Γ : gk_G} {a0 : Option Nat} {x1 : Int32} {x2 : Int32} {x3 : Int32} {x4 : Int32} {x5 : Int32} {M : gk_M} {ρ : gk_M} (h : fn_Filter_init a0 x1 x2 x3 x4 x5 M = some ρ) : gk_Met l gk_Y Γ y_Filter_init (.code y_Filter_init c_Filter_init 6 none :: gk_Y.2.2.2) rm_Filter_init [va_rf a0, .int x1, .int x2, .int x3, .int x4, .int x5] M none ρ :=
  gk_start (by decide) (by simp [lg_sl, gk_rc, gk_ic, gk_jc]) [some (va_rf a0), some (.int x1), some (.int x2), some (.int x3), some (.int x4), some (.int x5)] (by simp [gk_as, lv_args, gk_rc, gk_ic, gk_jc]) (fun p e s m args below meth c B hr hin => sn_Filter_init_0 B hr hin h)
theorem d_FilterChain_add_0 : decode c_FilterChain_add 0 = .ok (.aload_n 0, 1) := by decide +kernel
theorem d_FilterChain_add_1 : decode c_FilterChain_add 1 = .ok (.getfield 24, 3) := by decide +kernel
theorem d_FilterChain_add_4 : decode c_FilterChain_add 4 = .ok (.istore_n 2, 1) := by decide +kernel
theorem d_FilterChain_add_5 : decode c_FilterChain_add 5 = .ok (.iload_n 2, 1) := by decide +kernel
theorem d_FilterChain_add_6 : decode c_FilterChain_add 6 = .ok (.ifCond .le 46, 3) := by decide +kernel
theorem d_FilterChain_add_9 : decode c_FilterChain_add 9 = .ok (.aload_n 0, 1) := by decide +kernel
theorem d_FilterChain_add_10 : decode c_FilterChain_add 10 = .ok (.getfield 11, 3) := by decide +kernel
theorem d_FilterChain_add_13 : decode c_FilterChain_add 13 = .ok (.aload_n 0, 1) := by decide +kernel
theorem d_FilterChain_add_14 : decode c_FilterChain_add 14 = .ok (.getfield 17, 3) := by decide +kernel
theorem d_FilterChain_add_17 : decode c_FilterChain_add 17 = .ok (.iload_n 2, 1) := by decide +kernel
theorem d_FilterChain_add_18 : decode c_FilterChain_add 18 = .ok (.iconst 1, 1) := by decide +kernel
theorem d_FilterChain_add_19 : decode c_FilterChain_add 19 = .ok (.isub, 1) := by decide +kernel
theorem d_FilterChain_add_20 : decode c_FilterChain_add 20 = .ok (.iaload, 1) := by decide +kernel
theorem d_FilterChain_add_21 : decode c_FilterChain_add 21 = .ok (.aaload, 1) := by decide +kernel
theorem d_FilterChain_add_22 : decode c_FilterChain_add 22 = .ok (.getfield 28, 3) := by decide +kernel
theorem d_FilterChain_add_25 : decode c_FilterChain_add 25 = .ok (.aload_n 1, 1) := by decide +kernel
theorem d_FilterChain_add_26 : decode c_FilterChain_add 26 = .ok (.getfield 28, 3) := by decide +kernel
theorem d_FilterChain_add_29 : decode c_FilterChain_add 29 = .ok (.if_icmp .le 23, 3) := by decide +kernel
theorem d_FilterChain_add_32 : decode c_FilterChain_add 32 = .ok (.aload_n 0, 1) := by decide +kernel
theorem d_FilterChain_add_33 : decode c_FilterChain_add 33 = .ok (.getfield 17, 3) := by decide +kernel
theorem d_FilterChain_add_36 : decode c_FilterChain_add 36 = .ok (.iload_n 2, 1) := by decide +kernel
theorem d_FilterChain_add_37 : decode c_FilterChain_add 37 = .ok (.aload_n 0, 1) := by decide +kernel
theorem d_FilterChain_add_38 : decode c_FilterChain_add 38 = .ok (.getfield 17, 3) := by decide +kernel
theorem d_FilterChain_add_41 : decode c_FilterChain_add 41 = .ok (.iload_n 2, 1) := by decide +kernel
theorem d_FilterChain_add_42 : decode c_FilterChain_add 42 = .ok (.iconst 1, 1) := by decide +kernel
theorem d_FilterChain_add_43 : decode c_FilterChain_add 43 = .ok (.isub, 1) := by decide +kernel
theorem d_FilterChain_add_44 : decode c_FilterChain_add 44 = .ok (.iaload, 1) := by decide +kernel
theorem d_FilterChain_add_45 : decode c_FilterChain_add 45 = .ok (.iastore, 1) := by decide +kernel
theorem d_FilterChain_add_46 : decode c_FilterChain_add 46 = .ok (.iinc 2 (-1), 3) := by decide +kernel
theorem d_FilterChain_add_49 : decode c_FilterChain_add 49 = .ok (.goto (-44), 3) := by decide +kernel
theorem d_FilterChain_add_52 : decode c_FilterChain_add 52 = .ok (.aload_n 0, 1) := by decide +kernel
theorem d_FilterChain_add_53 : decode c_FilterChain_add 53 = .ok (.getfield 24, 3) := by decide +kernel
theorem d_FilterChain_add_56 : decode c_FilterChain_add 56 = .ok (.istore_n 3, 1) := by decide +kernel
theorem d_FilterChain_add_57 : decode c_FilterChain_add 57 = .ok (.iload_n 3, 1) := by decide +kernel
theorem d_FilterChain_add_58 : decode c_FilterChain_add 58 = .ok (.ifCond .le 46, 3) := by decide +kernel
theorem d_FilterChain_add_61 : decode c_FilterChain_add 61 = .ok (.aload_n 0, 1) := by decide +kernel
theorem d_FilterChain_add_62 : decode c_FilterChain_add 62 = .ok (.getfield 11, 3) := by decide +kernel
theorem d_FilterChain_add_65 : decode c_FilterChain_add 65 = .ok (.aload_n 0, 1) := by decide +kernel
theorem d_FilterChain_add_66 : decode c_FilterChain_add 66 = .ok (.getfield 21, 3) := by decide +kernel
theorem d_FilterChain_add_69 : decode c_FilterChain_add 69 = .ok (.iload_n 3, 1) := by decide +kernel
theorem d_FilterChain_add_70 : decode c_FilterChain_add 70 = .ok (.iconst 1, 1) := by decide +kernel
theorem d_FilterChain_add_71 : decode c_FilterChain_add 71 = .ok (.isub, 1) := by decide +kernel
theorem d_FilterChain_add_72 : decode c_FilterChain_add 72 = .ok (.iaload, 1) := by decide +kernel
theorem d_FilterChain_add_73 : decode c_FilterChain_add 73 = .ok (.aaload, 1) := by decide +kernel
theorem d_FilterChain_add_74 : decode c_FilterChain_add 74 = .ok (.getfield 28, 3) := by decide +kernel
theorem d_FilterChain_add_77 : decode c_FilterChain_add 77 = .ok (.aload_n 1, 1) := by decide +kernel
theorem d_FilterChain_add_78 : decode c_FilterChain_add 78 = .ok (.getfield 28, 3) := by decide +kernel
theorem d_FilterChain_add_81 : decode c_FilterChain_add 81 = .ok (.if_icmp .ge 23, 3) := by decide +kernel
theorem d_FilterChain_add_84 : decode c_FilterChain_add 84 = .ok (.aload_n 0, 1) := by decide +kernel
theorem d_FilterChain_add_85 : decode c_FilterChain_add 85 = .ok (.getfield 21, 3) := by decide +kernel
theorem d_FilterChain_add_88 : decode c_FilterChain_add 88 = .ok (.iload_n 3, 1) := by decide +kernel
theorem d_FilterChain_add_89 : decode c_FilterChain_add 89 = .ok (.aload_n 0, 1) := by decide +kernel
theorem d_FilterChain_add_90 : decode c_FilterChain_add 90 = .ok (.getfield 21, 3) := by decide +kernel
theorem d_FilterChain_add_93 : decode c_FilterChain_add 93 = .ok (.iload_n 3, 1) := by decide +kernel
theorem d_FilterChain_add_94 : decode c_FilterChain_add 94 = .ok (.iconst 1, 1) := by decide +kernel
theorem d_FilterChain_add_95 : decode c_FilterChain_add 95 = .ok (.isub, 1) := by decide +kernel
theorem d_FilterChain_add_96 : decode c_FilterChain_add 96 = .ok (.iaload, 1) := by decide +kernel
theorem d_FilterChain_add_97 : decode c_FilterChain_add 97 = .ok (.iastore, 1) := by decide +kernel
theorem d_FilterChain_add_98 : decode c_FilterChain_add 98 = .ok (.iinc 3 (-1), 3) := by decide +kernel
theorem d_FilterChain_add_101 : decode c_FilterChain_add 101 = .ok (.goto (-44), 3) := by decide +kernel
theorem d_FilterChain_add_104 : decode c_FilterChain_add 104 = .ok (.aload_n 0, 1) := by decide +kernel
theorem d_FilterChain_add_105 : decode c_FilterChain_add 105 = .ok (.getfield 17, 3) := by decide +kernel
theorem d_FilterChain_add_108 : decode c_FilterChain_add 108 = .ok (.iload_n 2, 1) := by decide +kernel
theorem d_FilterChain_add_109 : decode c_FilterChain_add 109 = .ok (.aload_n 0, 1) := by decide +kernel
theorem d_FilterChain_add_110 : decode c_FilterChain_add 110 = .ok (.getfield 24, 3) := by decide +kernel
theorem d_FilterChain_add_113 : decode c_FilterChain_add 113 = .ok (.iastore, 1) := by decide +kernel
theorem d_FilterChain_add_114 : decode c_FilterChain_add 114 = .ok (.aload_n 0, 1) := by decide +kernel
theorem d_FilterChain_add_115 : decode c_FilterChain_add 115 = .ok (.getfield 21, 3) := by decide +kernel
theorem d_FilterChain_add_118 : decode c_FilterChain_add 118 = .ok (.iload_n 3, 1) := by decide +kernel
theorem d_FilterChain_add_119 : decode c_FilterChain_add 119 = .ok (.aload_n 0, 1) := by decide +kernel
theorem d_FilterChain_add_120 : decode c_FilterChain_add 120 = .ok (.getfield 24, 3) := by decide +kernel
theorem d_FilterChain_add_123 : decode c_FilterChain_add 123 = .ok (.iastore, 1) := by decide +kernel
theorem d_FilterChain_add_124 : decode c_FilterChain_add 124 = .ok (.aload_n 0, 1) := by decide +kernel
theorem d_FilterChain_add_125 : decode c_FilterChain_add 125 = .ok (.getfield 11, 3) := by decide +kernel
theorem d_FilterChain_add_128 : decode c_FilterChain_add 128 = .ok (.aload_n 0, 1) := by decide +kernel
theorem d_FilterChain_add_129 : decode c_FilterChain_add 129 = .ok (.getfield 24, 3) := by decide +kernel
theorem d_FilterChain_add_132 : decode c_FilterChain_add 132 = .ok (.aload_n 1, 1) := by decide +kernel
theorem d_FilterChain_add_133 : decode c_FilterChain_add 133 = .ok (.aastore, 1) := by decide +kernel
theorem d_FilterChain_add_134 : decode c_FilterChain_add 134 = .ok (.aload_n 0, 1) := by decide +kernel
theorem d_FilterChain_add_135 : decode c_FilterChain_add 135 = .ok (.dup, 1) := by decide +kernel
theorem d_FilterChain_add_136 : decode c_FilterChain_add 136 = .ok (.getfield 24, 3) := by decide +kernel
theorem d_FilterChain_add_139 : decode c_FilterChain_add 139 = .ok (.iconst 1, 1) := by decide +kernel
theorem d_FilterChain_add_140 : decode c_FilterChain_add 140 = .ok (.iadd, 1) := by decide +kernel
theorem d_FilterChain_add_141 : decode c_FilterChain_add 141 = .ok (.putfield 24, 3) := by decide +kernel
theorem d_FilterChain_add_144 : decode c_FilterChain_add 144 = .ok (.aload_n 0, 1) := by decide +kernel
theorem d_FilterChain_add_145 : decode c_FilterChain_add 145 = .ok (.getfield 24, 3) := by decide +kernel
theorem d_FilterChain_add_148 : decode c_FilterChain_add 148 = .ok (.iconst 1, 1) := by decide +kernel
theorem d_FilterChain_add_149 : decode c_FilterChain_add 149 = .ok (.isub, 1) := by decide +kernel
theorem d_FilterChain_add_150 : decode c_FilterChain_add 150 = .ok (.ireturn, 1) := by decide +kernel
set_option maxHeartbeats 4000000 in
set_option maxRecDepth 100000 in
theorem sn_FilterChain_add_104 {l : Launch} {Γ : gk_G} {p : Program} {e : Env} {s : State} {m : MethodId} {args : Array Value} {below : List Frame} {meth : Method} {c : Code} (B : gk_B p s m args meth c gk_Y Γ c_FilterChain_add 4 "StageDispatcher$FilterChain") (hr : meth.sig.returnType = (some .int)) {ρ : Int32 × gk_M}   {a0 : Option Nat} {a1 : Option Nat} {x2 : Int32} {x3 : Int32} {M : gk_M} (h : fn_FilterChain_add_104  a0 a1 x2 x3 M = some ρ) : Gk p l e rm_FilterChain_add s m args below meth c gk_Y Γ 4 (MQ below (gk_Q gk_Y Γ (some (.int ρ.1)) ρ.2) args s rm_FilterChain_add.cells rm_FilterChain_add.slots (fun q => Γ.2.2 ≤ q)) 0 0 M 104 [some (va_rf a0), some (va_rf a1), some (.int x2), some (.int x3)] [] := by
  unfold fn_FilterChain_add_104 at h
  refine Gk_aload_n (i := 0) (r := a0) B d_FilterChain_add_104 rfl rfl ?_
  obtain ⟨v105, h105, h⟩ := gk_bind h
  refine Gk_getR (j := 1) B d_FilterChain_add_105 in_FilterChain cl_FilterChain (by decide) tw_136 rfl h105 ?_
  refine Gk_iload_n (i := 2) (x := x2) B d_FilterChain_add_108 rfl rfl ?_
  refine Gk_aload_n (i := 0) (r := a0) B d_FilterChain_add_109 rfl rfl ?_
  obtain ⟨v110, h110, h⟩ := gk_bind h
  refine Gk_getI (j := 3) B d_FilterChain_add_110 in_FilterChain cl_FilterChain (by decide) tw_140 rfl h110 ?_
  obtain ⟨M113, h113, h⟩ := gk_bind h
  refine Gk_iastore B d_FilterChain_add_113 ty_0 h113 ?_
  refine Gk_aload_n (i := 0) (r := a0) B d_FilterChain_add_114 rfl rfl ?_
  obtain ⟨v115, h115, h⟩ := gk_bind h
  refine Gk_getR (j := 2) B d_FilterChain_add_115 in_FilterChain cl_FilterChain (by decide) tw_138 rfl h115 ?_
  refine Gk_iload_n (i := 3) (x := x3) B d_FilterChain_add_118 rfl rfl ?_
  refine Gk_aload_n (i := 0) (r := a0) B d_FilterChain_add_119 rfl rfl ?_
  obtain ⟨v120, h120, h⟩ := gk_bind h
  refine Gk_getI (j := 3) B d_FilterChain_add_120 in_FilterChain cl_FilterChain (by decide) tw_140 rfl h120 ?_
  obtain ⟨M123, h123, h⟩ := gk_bind h
  refine Gk_iastore B d_FilterChain_add_123 ty_0 h123 ?_
  refine Gk_aload_n (i := 0) (r := a0) B d_FilterChain_add_124 rfl rfl ?_
  obtain ⟨v125, h125, h⟩ := gk_bind h
  refine Gk_getR (j := 0) B d_FilterChain_add_125 in_FilterChain cl_FilterChain (by decide) tw_134 rfl h125 ?_
  refine Gk_aload_n (i := 0) (r := a0) B d_FilterChain_add_128 rfl rfl ?_
  obtain ⟨v129, h129, h⟩ := gk_bind h
  refine Gk_getI (j := 3) B d_FilterChain_add_129 in_FilterChain cl_FilterChain (by decide) tw_140 rfl h129 ?_
  refine Gk_aload_n (i := 1) (r := a1) B d_FilterChain_add_132 rfl rfl ?_
  obtain ⟨M133, h133, h⟩ := gk_bind h
  refine Gk_aastore B d_FilterChain_add_133 ty_6 cl_Filter h133 ?_
  refine Gk_aload_n (i := 0) (r := a0) B d_FilterChain_add_134 rfl rfl ?_
  refine Gk_dup B d_FilterChain_add_135 (gk_rc _) ?_
  obtain ⟨v136, h136, h⟩ := gk_bind h
  refine Gk_getI (j := 3) B d_FilterChain_add_136 in_FilterChain cl_FilterChain (by decide) tw_140 rfl h136 ?_
  refine Gk_iconst (v := 1) B d_FilterChain_add_139 (by decide) ?_
  refine Gk_iadd B d_FilterChain_add_140 ?_
  obtain ⟨M141, h141, h⟩ := gk_bind h
  refine Gk_put (j := 3) (ty := .int) B d_FilterChain_add_141 in_FilterChain t_FilterChain t_FilterChain_ok n_FilterChain cl_FilterChain (by decide) tw_140 rfl rfl rfl rfl rfl h141 ?_
  refine Gk_aload_n (i := 0) (r := a0) B d_FilterChain_add_144 rfl rfl ?_
  obtain ⟨v145, h145, h⟩ := gk_bind h
  refine Gk_getI (j := 3) B d_FilterChain_add_145 in_FilterChain cl_FilterChain (by decide) tw_140 rfl h145 ?_
  refine Gk_iconst (v := 1) B d_FilterChain_add_148 (by decide) ?_
  refine Gk_isub B d_FilterChain_add_149 ?_
  cases h
  exact Gk_iret B hr d_FilterChain_add_150 rfl (by decide) (by decide) rfl
set_option maxHeartbeats 4000000 in
set_option maxRecDepth 100000 in
theorem sn_FilterChain_add_57_bd {l : Launch} {Γ : gk_G} {p : Program} {e : Env} {s : State} {m : MethodId} {args : Array Value} {below : List Frame} {meth : Method} {c : Code} (B : gk_B p s m args meth c gk_Y Γ c_FilterChain_add 4 "StageDispatcher$FilterChain") (hr : meth.sig.returnType = (some .int)) {ρ : Int32 × gk_M} {k57 : Option Nat → Option Nat → Int32 → Int32 → gk_M → Option (Int32 × gk_M)} (H57 : ∀ (a0 : Option Nat) (a1 : Option Nat) (x2 : Int32) (x3 : Int32) (M : gk_M), k57 a0 a1 x2 x3 M = some ρ → Gk p l e rm_FilterChain_add s m args below meth c gk_Y Γ 4 (MQ below (gk_Q gk_Y Γ (some (.int ρ.1)) ρ.2) args s rm_FilterChain_add.cells rm_FilterChain_add.slots (fun q => Γ.2.2 ≤ q)) 0 0 M 57 [some (va_rf a0), some (va_rf a1), some (.int x2), some (.int x3)] []) {a0 : Option Nat} {a1 : Option Nat} {x2 : Int32} {x3 : Int32} {M : gk_M} (h : fn_FilterChain_add_57_bd k57 a0 a1 x2 x3 M = some ρ) : Gk p l e rm_FilterChain_add s m args below meth c gk_Y Γ 4 (MQ below (gk_Q gk_Y Γ (some (.int ρ.1)) ρ.2) args s rm_FilterChain_add.cells rm_FilterChain_add.slots (fun q => Γ.2.2 ≤ q)) 0 0 M 57 [some (va_rf a0), some (va_rf a1), some (.int x2), some (.int x3)] [] := by
  unfold fn_FilterChain_add_57_bd at h
  refine Gk_iload_n (i := 3) (x := x3) B d_FilterChain_add_57 rfl rfl ?_
  refine Gk_if_le (tgt := 104) B d_FilterChain_add_58 rfl (fun c58 => ?_) (fun c58 => ?_)
  · rw [if_pos c58] at h
    exact sn_FilterChain_add_104 B hr h
  rw [if_neg c58] at h
  refine Gk_aload_n (i := 0) (r := a0) B d_FilterChain_add_61 rfl rfl ?_
  obtain ⟨v62, h62, h⟩ := gk_bind h
  refine Gk_getR (j := 0) B d_FilterChain_add_62 in_FilterChain cl_FilterChain (by decide) tw_134 rfl h62 ?_
  refine Gk_aload_n (i := 0) (r := a0) B d_FilterChain_add_65 rfl rfl ?_
  obtain ⟨v66, h66, h⟩ := gk_bind h
  refine Gk_getR (j := 2) B d_FilterChain_add_66 in_FilterChain cl_FilterChain (by decide) tw_138 rfl h66 ?_
  refine Gk_iload_n (i := 3) (x := x3) B d_FilterChain_add_69 rfl rfl ?_
  refine Gk_iconst (v := 1) B d_FilterChain_add_70 (by decide) ?_
  refine Gk_isub B d_FilterChain_add_71 ?_
  obtain ⟨v72, h72, h⟩ := gk_bind h
  refine Gk_iaload B d_FilterChain_add_72 ty_0 h72 ?_
  obtain ⟨v73, h73, h⟩ := gk_bind h
  refine Gk_aaload B d_FilterChain_add_73 ty_6 h73 ?_
  obtain ⟨v74, h74, h⟩ := gk_bind h
  refine Gk_getIN (j := 0) B d_FilterChain_add_74 in_Filter cl_Filter (by decide) nw_484 rfl h74 ?_
  refine Gk_aload_n (i := 1) (r := a1) B d_FilterChain_add_77 rfl rfl ?_
  obtain ⟨v78, h78, h⟩ := gk_bind h
  refine Gk_getIN (j := 0) B d_FilterChain_add_78 in_Filter cl_Filter (by decide) nw_484 rfl h78 ?_
  refine Gk_icmp_ge (tgt := 104) B d_FilterChain_add_81 rfl (fun c81 => ?_) (fun c81 => ?_)
  · rw [if_pos c81] at h
    exact sn_FilterChain_add_104 B hr h
  rw [if_neg c81] at h
  refine Gk_aload_n (i := 0) (r := a0) B d_FilterChain_add_84 rfl rfl ?_
  obtain ⟨v85, h85, h⟩ := gk_bind h
  refine Gk_getR (j := 2) B d_FilterChain_add_85 in_FilterChain cl_FilterChain (by decide) tw_138 rfl h85 ?_
  refine Gk_iload_n (i := 3) (x := x3) B d_FilterChain_add_88 rfl rfl ?_
  refine Gk_aload_n (i := 0) (r := a0) B d_FilterChain_add_89 rfl rfl ?_
  obtain ⟨v90, h90, h⟩ := gk_bind h
  refine Gk_getR (j := 2) B d_FilterChain_add_90 in_FilterChain cl_FilterChain (by decide) tw_138 rfl h90 ?_
  refine Gk_iload_n (i := 3) (x := x3) B d_FilterChain_add_93 rfl rfl ?_
  refine Gk_iconst (v := 1) B d_FilterChain_add_94 (by decide) ?_
  refine Gk_isub B d_FilterChain_add_95 ?_
  obtain ⟨v96, h96, h⟩ := gk_bind h
  refine Gk_iaload B d_FilterChain_add_96 ty_0 h96 ?_
  obtain ⟨M97, h97, h⟩ := gk_bind h
  refine Gk_iastore B d_FilterChain_add_97 ty_0 h97 ?_
  refine Gk_iinc (x := x3) (v := (x3 + (-1))) (L' := [some (va_rf a0), some (va_rf a1), some (.int x2), some (.int (x3 + (-1)))]) B d_FilterChain_add_98 rfl (congrArg (fun z => x3 + z) (by decide : Int32.ofInt (-1) = (-1))) (by decide) (gk_c1_i rfl) rfl ?_
  refine Gk_goto (tgt := 57) B d_FilterChain_add_101 rfl ?_
  exact H57 a0 a1 x2 (x3 + (-1)) M97 h
set_option maxHeartbeats 4000000 in
set_option maxRecDepth 100000 in
theorem sn_FilterChain_add_57 {l : Launch} {Γ : gk_G} {p : Program} {e : Env} {s : State} {m : MethodId} {args : Array Value} {below : List Frame} {meth : Method} {c : Code} (B : gk_B p s m args meth c gk_Y Γ c_FilterChain_add 4 "StageDispatcher$FilterChain") (hr : meth.sig.returnType = (some .int)) {ρ : Int32 × gk_M}   {a0 : Option Nat} {a1 : Option Nat} {x2 : Int32} {x3 : Int32} {M : gk_M} (h : fn_FilterChain_add_57  a0 a1 x2 x3 M = some ρ) : Gk p l e rm_FilterChain_add s m args below meth c gk_Y Γ 4 (MQ below (gk_Q gk_Y Γ (some (.int ρ.1)) ρ.2) args s rm_FilterChain_add.cells rm_FilterChain_add.slots (fun q => Γ.2.2 ≤ q)) 0 0 M 57 [some (va_rf a0), some (va_rf a1), some (.int x2), some (.int x3)] [] := by
  unfold fn_FilterChain_add_57 at h
  exact gk_loop_sound (α := Option Nat × Option Nat × Int32 × Int32 × gk_M) (P := fun a => Gk p l e rm_FilterChain_add s m args below meth c gk_Y Γ 4 (MQ below (gk_Q gk_Y Γ (some (.int ρ.1)) ρ.2) args s rm_FilterChain_add.cells rm_FilterChain_add.slots (fun q => Γ.2.2 ≤ q)) 0 0 a.2.2.2.2 57 [some (va_rf a.1), some (va_rf a.2.1), some (.int a.2.2.1), some (.int a.2.2.2.1)] []) (fun kk a Hk hb => sn_FilterChain_add_57_bd B hr (fun a0 a1 x2 x3 M hh => Hk (a0, a1, x2, x3, M) hh) hb) _ _ h
set_option maxHeartbeats 4000000 in
set_option maxRecDepth 100000 in
theorem sn_FilterChain_add_52 {l : Launch} {Γ : gk_G} {p : Program} {e : Env} {s : State} {m : MethodId} {args : Array Value} {below : List Frame} {meth : Method} {c : Code} (B : gk_B p s m args meth c gk_Y Γ c_FilterChain_add 4 "StageDispatcher$FilterChain") (hr : meth.sig.returnType = (some .int)) {ρ : Int32 × gk_M}   {a0 : Option Nat} {a1 : Option Nat} {x2 : Int32} {M : gk_M} (h : fn_FilterChain_add_52  a0 a1 x2 M = some ρ) : Gk p l e rm_FilterChain_add s m args below meth c gk_Y Γ 4 (MQ below (gk_Q gk_Y Γ (some (.int ρ.1)) ρ.2) args s rm_FilterChain_add.cells rm_FilterChain_add.slots (fun q => Γ.2.2 ≤ q)) 0 0 M 52 [some (va_rf a0), some (va_rf a1), some (.int x2), none] [] := by
  unfold fn_FilterChain_add_52 at h
  refine Gk_aload_n (i := 0) (r := a0) B d_FilterChain_add_52 rfl rfl ?_
  obtain ⟨v53, h53, h⟩ := gk_bind h
  refine Gk_getI (j := 3) B d_FilterChain_add_53 in_FilterChain cl_FilterChain (by decide) tw_140 rfl h53 ?_
  refine Gk_istore_n (i := 3) (L' := [some (va_rf a0), some (va_rf a1), some (.int x2), some (.int v53)]) B d_FilterChain_add_56 rfl (by decide) (gk_c1_i rfl) rfl ?_
  exact sn_FilterChain_add_57 B hr h
set_option maxHeartbeats 4000000 in
set_option maxRecDepth 100000 in
theorem sn_FilterChain_add_5_bd {l : Launch} {Γ : gk_G} {p : Program} {e : Env} {s : State} {m : MethodId} {args : Array Value} {below : List Frame} {meth : Method} {c : Code} (B : gk_B p s m args meth c gk_Y Γ c_FilterChain_add 4 "StageDispatcher$FilterChain") (hr : meth.sig.returnType = (some .int)) {ρ : Int32 × gk_M} {k5 : Option Nat → Option Nat → Int32 → gk_M → Option (Int32 × gk_M)} (H5 : ∀ (a0 : Option Nat) (a1 : Option Nat) (x2 : Int32) (M : gk_M), k5 a0 a1 x2 M = some ρ → Gk p l e rm_FilterChain_add s m args below meth c gk_Y Γ 4 (MQ below (gk_Q gk_Y Γ (some (.int ρ.1)) ρ.2) args s rm_FilterChain_add.cells rm_FilterChain_add.slots (fun q => Γ.2.2 ≤ q)) 0 0 M 5 [some (va_rf a0), some (va_rf a1), some (.int x2), none] []) {a0 : Option Nat} {a1 : Option Nat} {x2 : Int32} {M : gk_M} (h : fn_FilterChain_add_5_bd k5 a0 a1 x2 M = some ρ) : Gk p l e rm_FilterChain_add s m args below meth c gk_Y Γ 4 (MQ below (gk_Q gk_Y Γ (some (.int ρ.1)) ρ.2) args s rm_FilterChain_add.cells rm_FilterChain_add.slots (fun q => Γ.2.2 ≤ q)) 0 0 M 5 [some (va_rf a0), some (va_rf a1), some (.int x2), none] [] := by
  unfold fn_FilterChain_add_5_bd at h
  refine Gk_iload_n (i := 2) (x := x2) B d_FilterChain_add_5 rfl rfl ?_
  refine Gk_if_le (tgt := 52) B d_FilterChain_add_6 rfl (fun c6 => ?_) (fun c6 => ?_)
  · rw [if_pos c6] at h
    exact sn_FilterChain_add_52 B hr h
  rw [if_neg c6] at h
  refine Gk_aload_n (i := 0) (r := a0) B d_FilterChain_add_9 rfl rfl ?_
  obtain ⟨v10, h10, h⟩ := gk_bind h
  refine Gk_getR (j := 0) B d_FilterChain_add_10 in_FilterChain cl_FilterChain (by decide) tw_134 rfl h10 ?_
  refine Gk_aload_n (i := 0) (r := a0) B d_FilterChain_add_13 rfl rfl ?_
  obtain ⟨v14, h14, h⟩ := gk_bind h
  refine Gk_getR (j := 1) B d_FilterChain_add_14 in_FilterChain cl_FilterChain (by decide) tw_136 rfl h14 ?_
  refine Gk_iload_n (i := 2) (x := x2) B d_FilterChain_add_17 rfl rfl ?_
  refine Gk_iconst (v := 1) B d_FilterChain_add_18 (by decide) ?_
  refine Gk_isub B d_FilterChain_add_19 ?_
  obtain ⟨v20, h20, h⟩ := gk_bind h
  refine Gk_iaload B d_FilterChain_add_20 ty_0 h20 ?_
  obtain ⟨v21, h21, h⟩ := gk_bind h
  refine Gk_aaload B d_FilterChain_add_21 ty_6 h21 ?_
  obtain ⟨v22, h22, h⟩ := gk_bind h
  refine Gk_getIN (j := 0) B d_FilterChain_add_22 in_Filter cl_Filter (by decide) nw_484 rfl h22 ?_
  refine Gk_aload_n (i := 1) (r := a1) B d_FilterChain_add_25 rfl rfl ?_
  obtain ⟨v26, h26, h⟩ := gk_bind h
  refine Gk_getIN (j := 0) B d_FilterChain_add_26 in_Filter cl_Filter (by decide) nw_484 rfl h26 ?_
  refine Gk_icmp_le (tgt := 52) B d_FilterChain_add_29 rfl (fun c29 => ?_) (fun c29 => ?_)
  · rw [if_pos c29] at h
    exact sn_FilterChain_add_52 B hr h
  rw [if_neg c29] at h
  refine Gk_aload_n (i := 0) (r := a0) B d_FilterChain_add_32 rfl rfl ?_
  obtain ⟨v33, h33, h⟩ := gk_bind h
  refine Gk_getR (j := 1) B d_FilterChain_add_33 in_FilterChain cl_FilterChain (by decide) tw_136 rfl h33 ?_
  refine Gk_iload_n (i := 2) (x := x2) B d_FilterChain_add_36 rfl rfl ?_
  refine Gk_aload_n (i := 0) (r := a0) B d_FilterChain_add_37 rfl rfl ?_
  obtain ⟨v38, h38, h⟩ := gk_bind h
  refine Gk_getR (j := 1) B d_FilterChain_add_38 in_FilterChain cl_FilterChain (by decide) tw_136 rfl h38 ?_
  refine Gk_iload_n (i := 2) (x := x2) B d_FilterChain_add_41 rfl rfl ?_
  refine Gk_iconst (v := 1) B d_FilterChain_add_42 (by decide) ?_
  refine Gk_isub B d_FilterChain_add_43 ?_
  obtain ⟨v44, h44, h⟩ := gk_bind h
  refine Gk_iaload B d_FilterChain_add_44 ty_0 h44 ?_
  obtain ⟨M45, h45, h⟩ := gk_bind h
  refine Gk_iastore B d_FilterChain_add_45 ty_0 h45 ?_
  refine Gk_iinc (x := x2) (v := (x2 + (-1))) (L' := [some (va_rf a0), some (va_rf a1), some (.int (x2 + (-1))), none]) B d_FilterChain_add_46 rfl (congrArg (fun z => x2 + z) (by decide : Int32.ofInt (-1) = (-1))) (by decide) (gk_c1_r rfl) rfl ?_
  refine Gk_goto (tgt := 5) B d_FilterChain_add_49 rfl ?_
  exact H5 a0 a1 (x2 + (-1)) M45 h
set_option maxHeartbeats 4000000 in
set_option maxRecDepth 100000 in
theorem sn_FilterChain_add_5 {l : Launch} {Γ : gk_G} {p : Program} {e : Env} {s : State} {m : MethodId} {args : Array Value} {below : List Frame} {meth : Method} {c : Code} (B : gk_B p s m args meth c gk_Y Γ c_FilterChain_add 4 "StageDispatcher$FilterChain") (hr : meth.sig.returnType = (some .int)) {ρ : Int32 × gk_M}   {a0 : Option Nat} {a1 : Option Nat} {x2 : Int32} {M : gk_M} (h : fn_FilterChain_add_5  a0 a1 x2 M = some ρ) : Gk p l e rm_FilterChain_add s m args below meth c gk_Y Γ 4 (MQ below (gk_Q gk_Y Γ (some (.int ρ.1)) ρ.2) args s rm_FilterChain_add.cells rm_FilterChain_add.slots (fun q => Γ.2.2 ≤ q)) 0 0 M 5 [some (va_rf a0), some (va_rf a1), some (.int x2), none] [] := by
  unfold fn_FilterChain_add_5 at h
  exact gk_loop_sound (α := Option Nat × Option Nat × Int32 × gk_M) (P := fun a => Gk p l e rm_FilterChain_add s m args below meth c gk_Y Γ 4 (MQ below (gk_Q gk_Y Γ (some (.int ρ.1)) ρ.2) args s rm_FilterChain_add.cells rm_FilterChain_add.slots (fun q => Γ.2.2 ≤ q)) 0 0 a.2.2.2 5 [some (va_rf a.1), some (va_rf a.2.1), some (.int a.2.2.1), none] []) (fun kk a Hk hb => sn_FilterChain_add_5_bd B hr (fun a0 a1 x2 M hh => Hk (a0, a1, x2, M) hh) hb) _ _ h
set_option maxHeartbeats 4000000 in
set_option maxRecDepth 100000 in
theorem sn_FilterChain_add_0 {l : Launch} {Γ : gk_G} {p : Program} {e : Env} {s : State} {m : MethodId} {args : Array Value} {below : List Frame} {meth : Method} {c : Code} (B : gk_B p s m args meth c gk_Y Γ c_FilterChain_add 4 "StageDispatcher$FilterChain") (hr : meth.sig.returnType = (some .int)) {ρ : Int32 × gk_M}   {a0 : Option Nat} {a1 : Option Nat} {M : gk_M} (h : fn_FilterChain_add  a0 a1 M = some ρ) : Gk p l e rm_FilterChain_add s m args below meth c gk_Y Γ 4 (MQ below (gk_Q gk_Y Γ (some (.int ρ.1)) ρ.2) args s rm_FilterChain_add.cells rm_FilterChain_add.slots (fun q => Γ.2.2 ≤ q)) 0 0 M 0 [some (va_rf a0), some (va_rf a1), none, none] [] := by
  unfold fn_FilterChain_add at h
  refine Gk_aload_n (i := 0) (r := a0) B d_FilterChain_add_0 rfl rfl ?_
  obtain ⟨v1, h1, h⟩ := gk_bind h
  refine Gk_getI (j := 3) B d_FilterChain_add_1 in_FilterChain cl_FilterChain (by decide) tw_140 rfl h1 ?_
  refine Gk_istore_n (i := 2) (L' := [some (va_rf a0), some (va_rf a1), some (.int v1), none]) B d_FilterChain_add_4 rfl (by decide) (gk_c1_r rfl) rfl ?_
  exact sn_FilterChain_add_5 B hr h
theorem sn_FilterChain_add {l : Launch} {Γ : gk_G} {a0 : Option Nat} {a1 : Option Nat} {M : gk_M} {ρ : Int32 × gk_M} (h : fn_FilterChain_add a0 a1 M = some ρ) : gk_Met l gk_Y Γ y_FilterChain_add (.code y_FilterChain_add c_FilterChain_add 4 (some .int) :: gk_Y.2.2.2) rm_FilterChain_add [va_rf a0, va_rf a1] M (some (.int ρ.1)) ρ.2 :=
  gk_start (by decide) (by simp [lg_sl, gk_rc, gk_ic, gk_jc]) [some (va_rf a0), some (va_rf a1), none, none] (by simp [gk_as, lv_args, gk_rc, gk_ic, gk_jc]) (fun p e s m args below meth c B hr hin => sn_FilterChain_add_0 B hr h)
theorem d_SD_filter_0 : decode c_SD_filter 0 = .ok (.aload_n 0, 1) := by decide +kernel
theorem d_SD_filter_1 : decode c_SD_filter 1 = .ok (.getfield 26, 3) := by decide +kernel
theorem d_SD_filter_4 : decode c_SD_filter 4 = .ok (.getfield 136, 3) := by decide +kernel
theorem d_SD_filter_7 : decode c_SD_filter 7 = .ok (.bipush 8, 2) := by decide +kernel
theorem d_SD_filter_9 : decode c_SD_filter 9 = .ok (.if_icmp .ge 51, 3) := by decide +kernel
theorem d_SD_filter_12 : decode c_SD_filter 12 = .ok (.iload_n 1, 1) := by decide +kernel
theorem d_SD_filter_13 : decode c_SD_filter 13 = .ok (.iconst 0, 1) := by decide +kernel
theorem d_SD_filter_14 : decode c_SD_filter 14 = .ok (.bipush 99, 2) := by decide +kernel
theorem d_SD_filter_16 : decode c_SD_filter 16 = .ok (.invokestatic 95, 3) := by decide +kernel
theorem d_SD_filter_19 : decode c_SD_filter 19 = .ok (.ifCond .eq 41, 3) := by decide +kernel
theorem d_SD_filter_22 : decode c_SD_filter 22 = .ok (.iload_n 2, 1) := by decide +kernel
theorem d_SD_filter_23 : decode c_SD_filter 23 = .ok (.iconst 0, 1) := by decide +kernel
theorem d_SD_filter_24 : decode c_SD_filter 24 = .ok (.iconst 3, 1) := by decide +kernel
theorem d_SD_filter_25 : decode c_SD_filter 25 = .ok (.invokestatic 95, 3) := by decide +kernel
theorem d_SD_filter_28 : decode c_SD_filter 28 = .ok (.ifCond .eq 32, 3) := by decide +kernel
theorem d_SD_filter_31 : decode c_SD_filter 31 = .ok (.iload_n 3, 1) := by decide +kernel
theorem d_SD_filter_32 : decode c_SD_filter 32 = .ok (.iconst 0, 1) := by decide +kernel
theorem d_SD_filter_33 : decode c_SD_filter 33 = .ok (.iconst 2, 1) := by decide +kernel
theorem d_SD_filter_34 : decode c_SD_filter 34 = .ok (.invokestatic 95, 3) := by decide +kernel
theorem d_SD_filter_37 : decode c_SD_filter 37 = .ok (.ifCond .eq 23, 3) := by decide +kernel
theorem d_SD_filter_40 : decode c_SD_filter 40 = .ok (.iload 5, 2) := by decide +kernel
theorem d_SD_filter_42 : decode c_SD_filter 42 = .ok (.invokestatic 89, 3) := by decide +kernel
theorem d_SD_filter_45 : decode c_SD_filter 45 = .ok (.ifCond .ne 11, 3) := by decide +kernel
theorem d_SD_filter_48 : decode c_SD_filter 48 = .ok (.iload 5, 2) := by decide +kernel
theorem d_SD_filter_50 : decode c_SD_filter 50 = .ok (.invokestatic 139, 3) := by decide +kernel
theorem d_SD_filter_53 : decode c_SD_filter 53 = .ok (.ifCond .eq 7, 3) := by decide +kernel
theorem d_SD_filter_56 : decode c_SD_filter 56 = .ok (.iconst 1, 1) := by decide +kernel
theorem d_SD_filter_57 : decode c_SD_filter 57 = .ok (.goto 4, 3) := by decide +kernel
theorem d_SD_filter_60 : decode c_SD_filter 60 = .ok (.iconst 0, 1) := by decide +kernel
theorem d_SD_filter_61 : decode c_SD_filter 61 = .ok (.istore 6, 2) := by decide +kernel
theorem d_SD_filter_63 : decode c_SD_filter 63 = .ok (.iload 6, 2) := by decide +kernel
theorem d_SD_filter_65 : decode c_SD_filter 65 = .ok (.ifCond .eq 27, 3) := by decide +kernel
theorem d_SD_filter_68 : decode c_SD_filter 68 = .ok (.aload_n 0, 1) := by decide +kernel
theorem d_SD_filter_69 : decode c_SD_filter 69 = .ok (.getfield 26, 3) := by decide +kernel
theorem d_SD_filter_72 : decode c_SD_filter 72 = .ok (.new 142, 3) := by decide +kernel
theorem d_SD_filter_75 : decode c_SD_filter 75 = .ok (.dup, 1) := by decide +kernel
theorem d_SD_filter_76 : decode c_SD_filter 76 = .ok (.iload_n 1, 1) := by decide +kernel
theorem d_SD_filter_77 : decode c_SD_filter 77 = .ok (.iload_n 2, 1) := by decide +kernel
theorem d_SD_filter_78 : decode c_SD_filter 78 = .ok (.iload_n 3, 1) := by decide +kernel
theorem d_SD_filter_79 : decode c_SD_filter 79 = .ok (.iload 4, 2) := by decide +kernel
theorem d_SD_filter_81 : decode c_SD_filter 81 = .ok (.iload 5, 2) := by decide +kernel
theorem d_SD_filter_83 : decode c_SD_filter 83 = .ok (.invokespecial 144, 3) := by decide +kernel
theorem d_SD_filter_86 : decode c_SD_filter 86 = .ok (.invokevirtual 147, 3) := by decide +kernel
theorem d_SD_filter_89 : decode c_SD_filter 89 = .ok (.goto 4, 3) := by decide +kernel
theorem d_SD_filter_92 : decode c_SD_filter 92 = .ok (.iconst (-1), 1) := by decide +kernel
theorem d_SD_filter_93 : decode c_SD_filter 93 = .ok (.ireturn, 1) := by decide +kernel
set_option maxHeartbeats 4000000 in
set_option maxRecDepth 100000 in
theorem sn_SD_filter_61 {l : Launch} {Γ : gk_G} {p : Program} {e : Env} {s : State} {m : MethodId} {args : Array Value} {below : List Frame} {meth : Method} {c : Code} (B : gk_B p s m args meth c gk_Y Γ c_SD_filter 7 "StageDispatcher") (hr : meth.sig.returnType = (some .int)) {ρ : Int32 × gk_M}   {a0 : Option Nat} {x1 : Int32} {x2 : Int32} {x3 : Int32} {x4 : Int32} {x5 : Int32} {s0 : Int32} {M : gk_M} (h : fn_SD_filter_61  a0 x1 x2 x3 x4 x5 s0 M = some ρ) : Gk p l e rm_SD_filter s m args below meth c gk_Y Γ 7 (MQ below (gk_Q gk_Y Γ (some (.int ρ.1)) ρ.2) args s rm_SD_filter.cells rm_SD_filter.slots (fun q => Γ.2.2 ≤ q)) 0 0 M 61 [some (va_rf a0), some (.int x1), some (.int x2), some (.int x3), some (.int x4), some (.int x5), none] [.int s0] := by
  unfold fn_SD_filter_61 at h
  refine Gk_istore (L' := [some (va_rf a0), some (.int x1), some (.int x2), some (.int x3), some (.int x4), some (.int x5), some (.int s0)]) B d_SD_filter_61 (by decide) (gk_c1_i rfl) rfl ?_
  refine Gk_iload (x := s0) B d_SD_filter_63 rfl ?_
  refine Gk_if_eq (tgt := 92) B d_SD_filter_65 rfl (fun c65 => ?_) (fun c65 => ?_)
  · rw [if_pos c65] at h
    refine Gk_iconst (v := (-1)) B d_SD_filter_92 (by decide) ?_
    cases h
    exact Gk_iret B hr d_SD_filter_93 rfl (by decide) (by decide) rfl
  rw [if_neg c65] at h
  refine Gk_aload_n (i := 0) (r := a0) B d_SD_filter_68 rfl rfl ?_
  obtain ⟨v69, h69, h⟩ := gk_bind h
  refine Gk_getR (j := 2) B d_SD_filter_69 in_SD cl_SD (by decide) tw_280 rfl h69 ?_
  refine Gk_new B d_SD_filter_72 in_Filter t_Filter t_Filter_ok tw_477 tw_478 tw_54 cl_Filter df_Filter_ok (by decide) (by decide) ?_
  refine Gk_dup B d_SD_filter_75 (gk_rc _) ?_
  refine Gk_iload_n (i := 1) (x := x1) B d_SD_filter_76 rfl rfl ?_
  refine Gk_iload_n (i := 2) (x := x2) B d_SD_filter_77 rfl rfl ?_
  refine Gk_iload_n (i := 3) (x := x3) B d_SD_filter_78 rfl rfl ?_
  refine Gk_iload (x := x4) B d_SD_filter_79 rfl ?_
  refine Gk_iload (x := x5) B d_SD_filter_81 rfl ?_
  obtain ⟨o83, g83, h⟩ := gk_bind h
  obtain ⟨w83, h83, h⟩ := gk_bind h
  refine Gk_callIN (As := [.int x1, .int x2, .int x3, .int x4, .int x5]) (rest := [va_rf (some M.2), va_rf v69]) (st1 := [va_rf (some M.2), va_rf v69]) (k1 := 1) (n1 := 5) B gk_hG d_SD_filter_83 (sn_Filter_init h83) g83 rfl tw_481 nw_479 tw_480 tw_54 nm_Filter_init rfl (by simp [gk_rc, gk_ic, gk_jc, rm_SD_filter]) ⟨by decide, by decide⟩ ⟨by decide, by decide⟩ rfl rfl rfl rfl ?_
  obtain ⟨o86, g86, h⟩ := gk_bind h
  obtain ⟨w86, h86, h⟩ := gk_bind h
  refine Gk_callV (As := [va_rf (some M.2)]) (rest := []) (st1 := [.int w86.1]) (k1 := 1) (n1 := 5) B gk_hG d_SD_filter_86 (sn_FilterChain_add h86) g86 cl_FilterChain tw_507 tw_504 tw_505 tw_506 tw_43 nm_FilterChain_add rfl (by decide) ⟨by decide, by decide⟩ ⟨by decide, by decide⟩ rfl rfl rfl rfl ?_
  refine Gk_goto (tgt := 93) B d_SD_filter_89 rfl ?_
  cases h
  exact Gk_iret B hr d_SD_filter_93 rfl (by decide) (by decide) rfl
set_option maxHeartbeats 4000000 in
set_option maxRecDepth 100000 in
theorem sn_SD_filter_60 {l : Launch} {Γ : gk_G} {p : Program} {e : Env} {s : State} {m : MethodId} {args : Array Value} {below : List Frame} {meth : Method} {c : Code} (B : gk_B p s m args meth c gk_Y Γ c_SD_filter 7 "StageDispatcher") (hr : meth.sig.returnType = (some .int)) {ρ : Int32 × gk_M}   {a0 : Option Nat} {x1 : Int32} {x2 : Int32} {x3 : Int32} {x4 : Int32} {x5 : Int32} {M : gk_M} (h : fn_SD_filter_60  a0 x1 x2 x3 x4 x5 M = some ρ) : Gk p l e rm_SD_filter s m args below meth c gk_Y Γ 7 (MQ below (gk_Q gk_Y Γ (some (.int ρ.1)) ρ.2) args s rm_SD_filter.cells rm_SD_filter.slots (fun q => Γ.2.2 ≤ q)) 0 0 M 60 [some (va_rf a0), some (.int x1), some (.int x2), some (.int x3), some (.int x4), some (.int x5), none] [] := by
  unfold fn_SD_filter_60 at h
  refine Gk_iconst (v := 0) B d_SD_filter_60 (by decide) ?_
  exact sn_SD_filter_61 B hr h
set_option maxHeartbeats 4000000 in
set_option maxRecDepth 100000 in
theorem sn_SD_filter_56 {l : Launch} {Γ : gk_G} {p : Program} {e : Env} {s : State} {m : MethodId} {args : Array Value} {below : List Frame} {meth : Method} {c : Code} (B : gk_B p s m args meth c gk_Y Γ c_SD_filter 7 "StageDispatcher") (hr : meth.sig.returnType = (some .int)) {ρ : Int32 × gk_M}   {a0 : Option Nat} {x1 : Int32} {x2 : Int32} {x3 : Int32} {x4 : Int32} {x5 : Int32} {M : gk_M} (h : fn_SD_filter_56  a0 x1 x2 x3 x4 x5 M = some ρ) : Gk p l e rm_SD_filter s m args below meth c gk_Y Γ 7 (MQ below (gk_Q gk_Y Γ (some (.int ρ.1)) ρ.2) args s rm_SD_filter.cells rm_SD_filter.slots (fun q => Γ.2.2 ≤ q)) 0 0 M 56 [some (va_rf a0), some (.int x1), some (.int x2), some (.int x3), some (.int x4), some (.int x5), none] [] := by
  unfold fn_SD_filter_56 at h
  refine Gk_iconst (v := 1) B d_SD_filter_56 (by decide) ?_
  refine Gk_goto (tgt := 61) B d_SD_filter_57 rfl ?_
  exact sn_SD_filter_61 B hr h
set_option maxHeartbeats 4000000 in
set_option maxRecDepth 100000 in
theorem sn_SD_filter_0 {l : Launch} {Γ : gk_G} {p : Program} {e : Env} {s : State} {m : MethodId} {args : Array Value} {below : List Frame} {meth : Method} {c : Code} (B : gk_B p s m args meth c gk_Y Γ c_SD_filter 7 "StageDispatcher") (hr : meth.sig.returnType = (some .int)) {ρ : Int32 × gk_M}   {a0 : Option Nat} {x1 : Int32} {x2 : Int32} {x3 : Int32} {x4 : Int32} {x5 : Int32} {M : gk_M} (h : fn_SD_filter  a0 x1 x2 x3 x4 x5 M = some ρ) : Gk p l e rm_SD_filter s m args below meth c gk_Y Γ 7 (MQ below (gk_Q gk_Y Γ (some (.int ρ.1)) ρ.2) args s rm_SD_filter.cells rm_SD_filter.slots (fun q => Γ.2.2 ≤ q)) 0 0 M 0 [some (va_rf a0), some (.int x1), some (.int x2), some (.int x3), some (.int x4), some (.int x5), none] [] := by
  unfold fn_SD_filter at h
  refine Gk_aload_n (i := 0) (r := a0) B d_SD_filter_0 rfl rfl ?_
  obtain ⟨v1, h1, h⟩ := gk_bind h
  refine Gk_getR (j := 2) B d_SD_filter_1 in_SD cl_SD (by decide) tw_280 rfl h1 ?_
  obtain ⟨v4, h4, h⟩ := gk_bind h
  refine Gk_getI (j := 3) B d_SD_filter_4 in_FilterChain cl_FilterChain (by decide) tw_141 rfl h4 ?_
  refine Gk_bipush (v := 8) B d_SD_filter_7 (by decide) ?_
  refine Gk_icmp_ge (tgt := 60) B d_SD_filter_9 rfl (fun c9 => ?_) (fun c9 => ?_)
  · rw [if_pos c9] at h
    exact sn_SD_filter_60 B hr h
  rw [if_neg c9] at h
  refine Gk_iload_n (i := 1) (x := x1) B d_SD_filter_12 rfl rfl ?_
  refine Gk_iconst (v := 0) B d_SD_filter_13 (by decide) ?_
  refine Gk_bipush (v := 99) B d_SD_filter_14 (by decide) ?_
  obtain ⟨w16, h16, h⟩ := gk_bind h
  refine Gk_callS (As := [.int x1, .int 0, .int 99]) (rest := []) (st1 := [.int w16.1]) (k1 := 0) (n1 := 0) B gk_hG d_SD_filter_16 (sn_SD_isWithin h16) tw_373 tw_377 tw_372 tw_40 nm_SD_isWithin rfl (by decide) ⟨by decide, by decide⟩ ⟨by decide, by decide⟩ rfl rfl rfl rfl ?_
  refine Gk_if_eq (tgt := 60) B d_SD_filter_19 rfl (fun c19 => ?_) (fun c19 => ?_)
  · rw [if_pos c19] at h
    exact sn_SD_filter_60 B hr h
  rw [if_neg c19] at h
  refine Gk_iload_n (i := 2) (x := x2) B d_SD_filter_22 rfl rfl ?_
  refine Gk_iconst (v := 0) B d_SD_filter_23 (by decide) ?_
  refine Gk_iconst (v := 3) B d_SD_filter_24 (by decide) ?_
  obtain ⟨w25, h25, h⟩ := gk_bind h
  refine Gk_callS (As := [.int x2, .int 0, .int 3]) (rest := []) (st1 := [.int w25.1]) (k1 := 0) (n1 := 0) B gk_hG d_SD_filter_25 (sn_SD_isWithin h25) tw_373 tw_377 tw_372 tw_40 nm_SD_isWithin rfl (by decide) ⟨by decide, by decide⟩ ⟨by decide, by decide⟩ rfl rfl rfl rfl ?_
  refine Gk_if_eq (tgt := 60) B d_SD_filter_28 rfl (fun c28 => ?_) (fun c28 => ?_)
  · rw [if_pos c28] at h
    exact sn_SD_filter_60 B hr h
  rw [if_neg c28] at h
  refine Gk_iload_n (i := 3) (x := x3) B d_SD_filter_31 rfl rfl ?_
  refine Gk_iconst (v := 0) B d_SD_filter_32 (by decide) ?_
  refine Gk_iconst (v := 2) B d_SD_filter_33 (by decide) ?_
  obtain ⟨w34, h34, h⟩ := gk_bind h
  refine Gk_callS (As := [.int x3, .int 0, .int 2]) (rest := []) (st1 := [.int w34.1]) (k1 := 0) (n1 := 0) B gk_hG d_SD_filter_34 (sn_SD_isWithin h34) tw_373 tw_377 tw_372 tw_40 nm_SD_isWithin rfl (by decide) ⟨by decide, by decide⟩ ⟨by decide, by decide⟩ rfl rfl rfl rfl ?_
  refine Gk_if_eq (tgt := 60) B d_SD_filter_37 rfl (fun c37 => ?_) (fun c37 => ?_)
  · rw [if_pos c37] at h
    exact sn_SD_filter_60 B hr h
  rw [if_neg c37] at h
  refine Gk_iload (x := x5) B d_SD_filter_40 rfl ?_
  obtain ⟨w42, h42, h⟩ := gk_bind h
  refine Gk_callS (As := [.int x5]) (rest := []) (st1 := [.int w42.1]) (k1 := 0) (n1 := 0) B gk_hG d_SD_filter_42 (sn_SD_isVerb h42) tw_376 tw_374 tw_375 tw_40 nm_SD_isVerb rfl (by decide) ⟨by decide, by decide⟩ ⟨by decide, by decide⟩ rfl rfl rfl rfl ?_
  refine Gk_if_ne (tgt := 56) B d_SD_filter_45 rfl (fun c45 => ?_) (fun c45 => ?_)
  · rw [if_neg c45] at h
    exact sn_SD_filter_56 B hr h
  rw [if_pos c45] at h
  refine Gk_iload (x := x5) B d_SD_filter_48 rfl ?_
  obtain ⟨w50, h50, h⟩ := gk_bind h
  refine Gk_callS (As := [.int x5]) (rest := []) (st1 := [.int w50.1]) (k1 := 0) (n1 := 0) B gk_hG d_SD_filter_50 (sn_SD_isStatus h50) tw_476 tw_474 tw_475 tw_40 nm_SD_isStatus rfl (by decide) ⟨by decide, by decide⟩ ⟨by decide, by decide⟩ rfl rfl rfl rfl ?_
  refine Gk_if_eq (tgt := 60) B d_SD_filter_53 rfl (fun c53 => ?_) (fun c53 => ?_)
  · rw [if_pos c53] at h
    exact sn_SD_filter_60 B hr h
  rw [if_neg c53] at h
  exact sn_SD_filter_56 B hr h
theorem sn_SD_filter {l : Launch} {Γ : gk_G} {a0 : Option Nat} {x1 : Int32} {x2 : Int32} {x3 : Int32} {x4 : Int32} {x5 : Int32} {M : gk_M} {ρ : Int32 × gk_M} (h : fn_SD_filter a0 x1 x2 x3 x4 x5 M = some ρ) : gk_Met l gk_Y Γ y_SD_filter (.code y_SD_filter c_SD_filter 7 (some .int) :: gk_Y.2.2.2) rm_SD_filter [va_rf a0, .int x1, .int x2, .int x3, .int x4, .int x5] M (some (.int ρ.1)) ρ.2 :=
  gk_start (by decide) (by simp [lg_sl, gk_rc, gk_ic, gk_jc]) [some (va_rf a0), some (.int x1), some (.int x2), some (.int x3), some (.int x4), some (.int x5), none] (by simp [gk_as, lv_args, gk_rc, gk_ic, gk_jc]) (fun p e s m args below meth c B hr hin => sn_SD_filter_0 B hr h)
theorem d_Mo_filter_0 : decode c_Mo_filter 0 = .ok (.iload_n 1, 1) := by decide +kernel
theorem d_Mo_filter_1 : decode c_Mo_filter 1 = .ok (.iconst 0, 1) := by decide +kernel
theorem d_Mo_filter_2 : decode c_Mo_filter 2 = .ok (.bipush 99, 2) := by decide +kernel
theorem d_Mo_filter_4 : decode c_Mo_filter 4 = .ok (.invokestatic 167, 3) := by decide +kernel
theorem d_Mo_filter_7 : decode c_Mo_filter 7 = .ok (.ifCond .ne 57, 3) := by decide +kernel
theorem d_Mo_filter_10 : decode c_Mo_filter 10 = .ok (.iload_n 2, 1) := by decide +kernel
theorem d_Mo_filter_11 : decode c_Mo_filter 11 = .ok (.iconst 0, 1) := by decide +kernel
theorem d_Mo_filter_12 : decode c_Mo_filter 12 = .ok (.iconst 3, 1) := by decide +kernel
theorem d_Mo_filter_13 : decode c_Mo_filter 13 = .ok (.invokestatic 167, 3) := by decide +kernel
theorem d_Mo_filter_16 : decode c_Mo_filter 16 = .ok (.ifCond .ne 48, 3) := by decide +kernel
theorem d_Mo_filter_19 : decode c_Mo_filter 19 = .ok (.iload_n 3, 1) := by decide +kernel
theorem d_Mo_filter_20 : decode c_Mo_filter 20 = .ok (.iconst 0, 1) := by decide +kernel
theorem d_Mo_filter_21 : decode c_Mo_filter 21 = .ok (.iconst 2, 1) := by decide +kernel
theorem d_Mo_filter_22 : decode c_Mo_filter 22 = .ok (.invokestatic 167, 3) := by decide +kernel
theorem d_Mo_filter_25 : decode c_Mo_filter 25 = .ok (.ifCond .ne 39, 3) := by decide +kernel
theorem d_Mo_filter_28 : decode c_Mo_filter 28 = .ok (.iload 5, 2) := by decide +kernel
theorem d_Mo_filter_30 : decode c_Mo_filter 30 = .ok (.iconst 0, 1) := by decide +kernel
theorem d_Mo_filter_31 : decode c_Mo_filter 31 = .ok (.iconst 5, 1) := by decide +kernel
theorem d_Mo_filter_32 : decode c_Mo_filter 32 = .ok (.invokestatic 167, 3) := by decide +kernel
theorem d_Mo_filter_35 : decode c_Mo_filter 35 = .ok (.ifCond .eq 16, 3) := by decide +kernel
theorem d_Mo_filter_38 : decode c_Mo_filter 38 = .ok (.iload 5, 2) := by decide +kernel
theorem d_Mo_filter_40 : decode c_Mo_filter 40 = .ok (.bipush 100, 2) := by decide +kernel
theorem d_Mo_filter_42 : decode c_Mo_filter 42 = .ok (.sipush 599, 3) := by decide +kernel
theorem d_Mo_filter_45 : decode c_Mo_filter 45 = .ok (.invokestatic 167, 3) := by decide +kernel
theorem d_Mo_filter_48 : decode c_Mo_filter 48 = .ok (.ifCond .ne 16, 3) := by decide +kernel
theorem d_Mo_filter_51 : decode c_Mo_filter 51 = .ok (.aload_n 0, 1) := by decide +kernel
theorem d_Mo_filter_52 : decode c_Mo_filter 52 = .ok (.getfield 181, 3) := by decide +kernel
theorem d_Mo_filter_55 : decode c_Mo_filter 55 = .ok (.bipush 8, 2) := by decide +kernel
theorem d_Mo_filter_57 : decode c_Mo_filter 57 = .ok (.if_icmp .ge 7, 3) := by decide +kernel
theorem d_Mo_filter_60 : decode c_Mo_filter 60 = .ok (.iconst 1, 1) := by decide +kernel
theorem d_Mo_filter_61 : decode c_Mo_filter 61 = .ok (.goto 4, 3) := by decide +kernel
theorem d_Mo_filter_64 : decode c_Mo_filter 64 = .ok (.iconst 0, 1) := by decide +kernel
theorem d_Mo_filter_65 : decode c_Mo_filter 65 = .ok (.istore 6, 2) := by decide +kernel
theorem d_Mo_filter_67 : decode c_Mo_filter 67 = .ok (.iload 6, 2) := by decide +kernel
theorem d_Mo_filter_69 : decode c_Mo_filter 69 = .ok (.ifCond .ne 5, 3) := by decide +kernel
theorem d_Mo_filter_72 : decode c_Mo_filter 72 = .ok (.iconst (-1), 1) := by decide +kernel
theorem d_Mo_filter_73 : decode c_Mo_filter 73 = .ok (.ireturn, 1) := by decide +kernel
theorem d_Mo_filter_74 : decode c_Mo_filter 74 = .ok (.aload_n 0, 1) := by decide +kernel
theorem d_Mo_filter_75 : decode c_Mo_filter 75 = .ok (.getfield 50, 3) := by decide +kernel
theorem d_Mo_filter_78 : decode c_Mo_filter 78 = .ok (.aload_n 0, 1) := by decide +kernel
theorem d_Mo_filter_79 : decode c_Mo_filter 79 = .ok (.getfield 181, 3) := by decide +kernel
theorem d_Mo_filter_82 : decode c_Mo_filter 82 = .ok (.iload_n 1, 1) := by decide +kernel
theorem d_Mo_filter_83 : decode c_Mo_filter 83 = .ok (.iastore, 1) := by decide +kernel
theorem d_Mo_filter_84 : decode c_Mo_filter 84 = .ok (.aload_n 0, 1) := by decide +kernel
theorem d_Mo_filter_85 : decode c_Mo_filter 85 = .ok (.getfield 53, 3) := by decide +kernel
theorem d_Mo_filter_88 : decode c_Mo_filter 88 = .ok (.aload_n 0, 1) := by decide +kernel
theorem d_Mo_filter_89 : decode c_Mo_filter 89 = .ok (.getfield 181, 3) := by decide +kernel
theorem d_Mo_filter_92 : decode c_Mo_filter 92 = .ok (.iload_n 2, 1) := by decide +kernel
theorem d_Mo_filter_93 : decode c_Mo_filter 93 = .ok (.iastore, 1) := by decide +kernel
theorem d_Mo_filter_94 : decode c_Mo_filter 94 = .ok (.aload_n 0, 1) := by decide +kernel
theorem d_Mo_filter_95 : decode c_Mo_filter 95 = .ok (.getfield 56, 3) := by decide +kernel
theorem d_Mo_filter_98 : decode c_Mo_filter 98 = .ok (.aload_n 0, 1) := by decide +kernel
theorem d_Mo_filter_99 : decode c_Mo_filter 99 = .ok (.getfield 181, 3) := by decide +kernel
theorem d_Mo_filter_102 : decode c_Mo_filter 102 = .ok (.iload_n 3, 1) := by decide +kernel
theorem d_Mo_filter_103 : decode c_Mo_filter 103 = .ok (.iastore, 1) := by decide +kernel
theorem d_Mo_filter_104 : decode c_Mo_filter 104 = .ok (.aload_n 0, 1) := by decide +kernel
theorem d_Mo_filter_105 : decode c_Mo_filter 105 = .ok (.getfield 59, 3) := by decide +kernel
theorem d_Mo_filter_108 : decode c_Mo_filter 108 = .ok (.aload_n 0, 1) := by decide +kernel
theorem d_Mo_filter_109 : decode c_Mo_filter 109 = .ok (.getfield 181, 3) := by decide +kernel
theorem d_Mo_filter_112 : decode c_Mo_filter 112 = .ok (.iload 4, 2) := by decide +kernel
theorem d_Mo_filter_114 : decode c_Mo_filter 114 = .ok (.iastore, 1) := by decide +kernel
theorem d_Mo_filter_115 : decode c_Mo_filter 115 = .ok (.aload_n 0, 1) := by decide +kernel
theorem d_Mo_filter_116 : decode c_Mo_filter 116 = .ok (.getfield 62, 3) := by decide +kernel
theorem d_Mo_filter_119 : decode c_Mo_filter 119 = .ok (.aload_n 0, 1) := by decide +kernel
theorem d_Mo_filter_120 : decode c_Mo_filter 120 = .ok (.getfield 181, 3) := by decide +kernel
theorem d_Mo_filter_123 : decode c_Mo_filter 123 = .ok (.iload 5, 2) := by decide +kernel
theorem d_Mo_filter_125 : decode c_Mo_filter 125 = .ok (.iastore, 1) := by decide +kernel
theorem d_Mo_filter_126 : decode c_Mo_filter 126 = .ok (.aload_n 0, 1) := by decide +kernel
theorem d_Mo_filter_127 : decode c_Mo_filter 127 = .ok (.dup, 1) := by decide +kernel
theorem d_Mo_filter_128 : decode c_Mo_filter 128 = .ok (.getfield 181, 3) := by decide +kernel
theorem d_Mo_filter_131 : decode c_Mo_filter 131 = .ok (.iconst 1, 1) := by decide +kernel
theorem d_Mo_filter_132 : decode c_Mo_filter 132 = .ok (.iadd, 1) := by decide +kernel
theorem d_Mo_filter_133 : decode c_Mo_filter 133 = .ok (.putfield 181, 3) := by decide +kernel
theorem d_Mo_filter_136 : decode c_Mo_filter 136 = .ok (.aload_n 0, 1) := by decide +kernel
theorem d_Mo_filter_137 : decode c_Mo_filter 137 = .ok (.getfield 181, 3) := by decide +kernel
theorem d_Mo_filter_140 : decode c_Mo_filter 140 = .ok (.iconst 1, 1) := by decide +kernel
theorem d_Mo_filter_141 : decode c_Mo_filter 141 = .ok (.isub, 1) := by decide +kernel
theorem d_Mo_filter_142 : decode c_Mo_filter 142 = .ok (.ireturn, 1) := by decide +kernel
set_option maxHeartbeats 4000000 in
set_option maxRecDepth 100000 in
theorem sn_Mo_filter_65 {l : Launch} {Γ : gk_G} {p : Program} {e : Env} {s : State} {m : MethodId} {args : Array Value} {below : List Frame} {meth : Method} {c : Code} (B : gk_B p s m args meth c gk_Y Γ c_Mo_filter 7 "StageDispatcherModel") (hr : meth.sig.returnType = (some .int)) {ρ : Int32 × gk_M}   {a0 : Option Nat} {x1 : Int32} {x2 : Int32} {x3 : Int32} {x4 : Int32} {x5 : Int32} {s0 : Int32} {M : gk_M} (h : fn_Mo_filter_65  a0 x1 x2 x3 x4 x5 s0 M = some ρ) : Gk p l e rm_Mo_filter s m args below meth c gk_Y Γ 7 (MQ below (gk_Q gk_Y Γ (some (.int ρ.1)) ρ.2) args s rm_Mo_filter.cells rm_Mo_filter.slots (fun q => Γ.2.2 ≤ q)) 0 0 M 65 [some (va_rf a0), some (.int x1), some (.int x2), some (.int x3), some (.int x4), some (.int x5), none] [.int s0] := by
  unfold fn_Mo_filter_65 at h
  refine Gk_istore (L' := [some (va_rf a0), some (.int x1), some (.int x2), some (.int x3), some (.int x4), some (.int x5), some (.int s0)]) B d_Mo_filter_65 (by decide) (gk_c1_i rfl) rfl ?_
  refine Gk_iload (x := s0) B d_Mo_filter_67 rfl ?_
  refine Gk_if_ne (tgt := 74) B d_Mo_filter_69 rfl (fun c69 => ?_) (fun c69 => ?_)
  · rw [if_neg c69] at h
    refine Gk_aload_n (i := 0) (r := a0) B d_Mo_filter_74 rfl rfl ?_
    obtain ⟨v75, h75, h⟩ := gk_bind h
    refine Gk_getR (j := 18) B d_Mo_filter_75 in_Mo cl_Mo (by decide) tw_773 rfl h75 ?_
    refine Gk_aload_n (i := 0) (r := a0) B d_Mo_filter_78 rfl rfl ?_
    obtain ⟨v79, h79, h⟩ := gk_bind h
    refine Gk_getI (j := 17) B d_Mo_filter_79 in_Mo cl_Mo (by decide) tw_772 rfl h79 ?_
    refine Gk_iload_n (i := 1) (x := x1) B d_Mo_filter_82 rfl rfl ?_
    obtain ⟨M83, h83, h⟩ := gk_bind h
    refine Gk_iastore B d_Mo_filter_83 ty_0 h83 ?_
    refine Gk_aload_n (i := 0) (r := a0) B d_Mo_filter_84 rfl rfl ?_
    obtain ⟨v85, h85, h⟩ := gk_bind h
    refine Gk_getR (j := 19) B d_Mo_filter_85 in_Mo cl_Mo (by decide) tw_774 rfl h85 ?_
    refine Gk_aload_n (i := 0) (r := a0) B d_Mo_filter_88 rfl rfl ?_
    obtain ⟨v89, h89, h⟩ := gk_bind h
    refine Gk_getI (j := 17) B d_Mo_filter_89 in_Mo cl_Mo (by decide) tw_772 rfl h89 ?_
    refine Gk_iload_n (i := 2) (x := x2) B d_Mo_filter_92 rfl rfl ?_
    obtain ⟨M93, h93, h⟩ := gk_bind h
    refine Gk_iastore B d_Mo_filter_93 ty_0 h93 ?_
    refine Gk_aload_n (i := 0) (r := a0) B d_Mo_filter_94 rfl rfl ?_
    obtain ⟨v95, h95, h⟩ := gk_bind h
    refine Gk_getR (j := 20) B d_Mo_filter_95 in_Mo cl_Mo (by decide) tw_775 rfl h95 ?_
    refine Gk_aload_n (i := 0) (r := a0) B d_Mo_filter_98 rfl rfl ?_
    obtain ⟨v99, h99, h⟩ := gk_bind h
    refine Gk_getI (j := 17) B d_Mo_filter_99 in_Mo cl_Mo (by decide) tw_772 rfl h99 ?_
    refine Gk_iload_n (i := 3) (x := x3) B d_Mo_filter_102 rfl rfl ?_
    obtain ⟨M103, h103, h⟩ := gk_bind h
    refine Gk_iastore B d_Mo_filter_103 ty_0 h103 ?_
    refine Gk_aload_n (i := 0) (r := a0) B d_Mo_filter_104 rfl rfl ?_
    obtain ⟨v105, h105, h⟩ := gk_bind h
    refine Gk_getR (j := 21) B d_Mo_filter_105 in_Mo cl_Mo (by decide) tw_776 rfl h105 ?_
    refine Gk_aload_n (i := 0) (r := a0) B d_Mo_filter_108 rfl rfl ?_
    obtain ⟨v109, h109, h⟩ := gk_bind h
    refine Gk_getI (j := 17) B d_Mo_filter_109 in_Mo cl_Mo (by decide) tw_772 rfl h109 ?_
    refine Gk_iload (x := x4) B d_Mo_filter_112 rfl ?_
    obtain ⟨M114, h114, h⟩ := gk_bind h
    refine Gk_iastore B d_Mo_filter_114 ty_0 h114 ?_
    refine Gk_aload_n (i := 0) (r := a0) B d_Mo_filter_115 rfl rfl ?_
    obtain ⟨v116, h116, h⟩ := gk_bind h
    refine Gk_getR (j := 22) B d_Mo_filter_116 in_Mo cl_Mo (by decide) tw_777 rfl h116 ?_
    refine Gk_aload_n (i := 0) (r := a0) B d_Mo_filter_119 rfl rfl ?_
    obtain ⟨v120, h120, h⟩ := gk_bind h
    refine Gk_getI (j := 17) B d_Mo_filter_120 in_Mo cl_Mo (by decide) tw_772 rfl h120 ?_
    refine Gk_iload (x := x5) B d_Mo_filter_123 rfl ?_
    obtain ⟨M125, h125, h⟩ := gk_bind h
    refine Gk_iastore B d_Mo_filter_125 ty_0 h125 ?_
    refine Gk_aload_n (i := 0) (r := a0) B d_Mo_filter_126 rfl rfl ?_
    refine Gk_dup B d_Mo_filter_127 (gk_rc _) ?_
    obtain ⟨v128, h128, h⟩ := gk_bind h
    refine Gk_getI (j := 17) B d_Mo_filter_128 in_Mo cl_Mo (by decide) tw_772 rfl h128 ?_
    refine Gk_iconst (v := 1) B d_Mo_filter_131 (by decide) ?_
    refine Gk_iadd B d_Mo_filter_132 ?_
    obtain ⟨M133, h133, h⟩ := gk_bind h
    refine Gk_put (j := 17) (ty := .int) B d_Mo_filter_133 in_Mo t_Mo t_Mo_ok n_Mo cl_Mo (by decide) tw_772 rfl rfl rfl rfl rfl h133 ?_
    refine Gk_aload_n (i := 0) (r := a0) B d_Mo_filter_136 rfl rfl ?_
    obtain ⟨v137, h137, h⟩ := gk_bind h
    refine Gk_getI (j := 17) B d_Mo_filter_137 in_Mo cl_Mo (by decide) tw_772 rfl h137 ?_
    refine Gk_iconst (v := 1) B d_Mo_filter_140 (by decide) ?_
    refine Gk_isub B d_Mo_filter_141 ?_
    cases h
    exact Gk_iret B hr d_Mo_filter_142 rfl (by decide) (by decide) rfl
  rw [if_pos c69] at h
  refine Gk_iconst (v := (-1)) B d_Mo_filter_72 (by decide) ?_
  cases h
  exact Gk_iret B hr d_Mo_filter_73 rfl (by decide) (by decide) rfl
set_option maxHeartbeats 4000000 in
set_option maxRecDepth 100000 in
theorem sn_Mo_filter_64 {l : Launch} {Γ : gk_G} {p : Program} {e : Env} {s : State} {m : MethodId} {args : Array Value} {below : List Frame} {meth : Method} {c : Code} (B : gk_B p s m args meth c gk_Y Γ c_Mo_filter 7 "StageDispatcherModel") (hr : meth.sig.returnType = (some .int)) {ρ : Int32 × gk_M}   {a0 : Option Nat} {x1 : Int32} {x2 : Int32} {x3 : Int32} {x4 : Int32} {x5 : Int32} {M : gk_M} (h : fn_Mo_filter_64  a0 x1 x2 x3 x4 x5 M = some ρ) : Gk p l e rm_Mo_filter s m args below meth c gk_Y Γ 7 (MQ below (gk_Q gk_Y Γ (some (.int ρ.1)) ρ.2) args s rm_Mo_filter.cells rm_Mo_filter.slots (fun q => Γ.2.2 ≤ q)) 0 0 M 64 [some (va_rf a0), some (.int x1), some (.int x2), some (.int x3), some (.int x4), some (.int x5), none] [] := by
  unfold fn_Mo_filter_64 at h
  refine Gk_iconst (v := 0) B d_Mo_filter_64 (by decide) ?_
  exact sn_Mo_filter_65 B hr h
set_option maxHeartbeats 4000000 in
set_option maxRecDepth 100000 in
theorem sn_Mo_filter_51 {l : Launch} {Γ : gk_G} {p : Program} {e : Env} {s : State} {m : MethodId} {args : Array Value} {below : List Frame} {meth : Method} {c : Code} (B : gk_B p s m args meth c gk_Y Γ c_Mo_filter 7 "StageDispatcherModel") (hr : meth.sig.returnType = (some .int)) {ρ : Int32 × gk_M}   {a0 : Option Nat} {x1 : Int32} {x2 : Int32} {x3 : Int32} {x4 : Int32} {x5 : Int32} {M : gk_M} (h : fn_Mo_filter_51  a0 x1 x2 x3 x4 x5 M = some ρ) : Gk p l e rm_Mo_filter s m args below meth c gk_Y Γ 7 (MQ below (gk_Q gk_Y Γ (some (.int ρ.1)) ρ.2) args s rm_Mo_filter.cells rm_Mo_filter.slots (fun q => Γ.2.2 ≤ q)) 0 0 M 51 [some (va_rf a0), some (.int x1), some (.int x2), some (.int x3), some (.int x4), some (.int x5), none] [] := by
  unfold fn_Mo_filter_51 at h
  refine Gk_aload_n (i := 0) (r := a0) B d_Mo_filter_51 rfl rfl ?_
  obtain ⟨v52, h52, h⟩ := gk_bind h
  refine Gk_getI (j := 17) B d_Mo_filter_52 in_Mo cl_Mo (by decide) tw_772 rfl h52 ?_
  refine Gk_bipush (v := 8) B d_Mo_filter_55 (by decide) ?_
  refine Gk_icmp_ge (tgt := 64) B d_Mo_filter_57 rfl (fun c57 => ?_) (fun c57 => ?_)
  · rw [if_pos c57] at h
    exact sn_Mo_filter_64 B hr h
  rw [if_neg c57] at h
  refine Gk_iconst (v := 1) B d_Mo_filter_60 (by decide) ?_
  refine Gk_goto (tgt := 65) B d_Mo_filter_61 rfl ?_
  exact sn_Mo_filter_65 B hr h
set_option maxHeartbeats 4000000 in
set_option maxRecDepth 100000 in
theorem sn_Mo_filter_0 {l : Launch} {Γ : gk_G} {p : Program} {e : Env} {s : State} {m : MethodId} {args : Array Value} {below : List Frame} {meth : Method} {c : Code} (B : gk_B p s m args meth c gk_Y Γ c_Mo_filter 7 "StageDispatcherModel") (hr : meth.sig.returnType = (some .int)) {ρ : Int32 × gk_M}   {a0 : Option Nat} {x1 : Int32} {x2 : Int32} {x3 : Int32} {x4 : Int32} {x5 : Int32} {M : gk_M} (h : fn_Mo_filter  a0 x1 x2 x3 x4 x5 M = some ρ) : Gk p l e rm_Mo_filter s m args below meth c gk_Y Γ 7 (MQ below (gk_Q gk_Y Γ (some (.int ρ.1)) ρ.2) args s rm_Mo_filter.cells rm_Mo_filter.slots (fun q => Γ.2.2 ≤ q)) 0 0 M 0 [some (va_rf a0), some (.int x1), some (.int x2), some (.int x3), some (.int x4), some (.int x5), none] [] := by
  unfold fn_Mo_filter at h
  refine Gk_iload_n (i := 1) (x := x1) B d_Mo_filter_0 rfl rfl ?_
  refine Gk_iconst (v := 0) B d_Mo_filter_1 (by decide) ?_
  refine Gk_bipush (v := 99) B d_Mo_filter_2 (by decide) ?_
  obtain ⟨w4, h4, h⟩ := gk_bind h
  refine Gk_callS (As := [.int x1, .int 0, .int 99]) (rest := []) (st1 := [.int w4.1]) (k1 := 0) (n1 := 0) B gk_hG d_Mo_filter_4 (sn_Mo_outside h4) tw_954 tw_952 tw_953 tw_48 nm_Mo_outside rfl (by decide) ⟨by decide, by decide⟩ ⟨by decide, by decide⟩ rfl rfl rfl rfl ?_
  refine Gk_if_ne (tgt := 64) B d_Mo_filter_7 rfl (fun c7 => ?_) (fun c7 => ?_)
  · rw [if_neg c7] at h
    exact sn_Mo_filter_64 B hr h
  rw [if_pos c7] at h
  refine Gk_iload_n (i := 2) (x := x2) B d_Mo_filter_10 rfl rfl ?_
  refine Gk_iconst (v := 0) B d_Mo_filter_11 (by decide) ?_
  refine Gk_iconst (v := 3) B d_Mo_filter_12 (by decide) ?_
  obtain ⟨w13, h13, h⟩ := gk_bind h
  refine Gk_callS (As := [.int x2, .int 0, .int 3]) (rest := []) (st1 := [.int w13.1]) (k1 := 0) (n1 := 0) B gk_hG d_Mo_filter_13 (sn_Mo_outside h13) tw_954 tw_952 tw_953 tw_48 nm_Mo_outside rfl (by decide) ⟨by decide, by decide⟩ ⟨by decide, by decide⟩ rfl rfl rfl rfl ?_
  refine Gk_if_ne (tgt := 64) B d_Mo_filter_16 rfl (fun c16 => ?_) (fun c16 => ?_)
  · rw [if_neg c16] at h
    exact sn_Mo_filter_64 B hr h
  rw [if_pos c16] at h
  refine Gk_iload_n (i := 3) (x := x3) B d_Mo_filter_19 rfl rfl ?_
  refine Gk_iconst (v := 0) B d_Mo_filter_20 (by decide) ?_
  refine Gk_iconst (v := 2) B d_Mo_filter_21 (by decide) ?_
  obtain ⟨w22, h22, h⟩ := gk_bind h
  refine Gk_callS (As := [.int x3, .int 0, .int 2]) (rest := []) (st1 := [.int w22.1]) (k1 := 0) (n1 := 0) B gk_hG d_Mo_filter_22 (sn_Mo_outside h22) tw_954 tw_952 tw_953 tw_48 nm_Mo_outside rfl (by decide) ⟨by decide, by decide⟩ ⟨by decide, by decide⟩ rfl rfl rfl rfl ?_
  refine Gk_if_ne (tgt := 64) B d_Mo_filter_25 rfl (fun c25 => ?_) (fun c25 => ?_)
  · rw [if_neg c25] at h
    exact sn_Mo_filter_64 B hr h
  rw [if_pos c25] at h
  refine Gk_iload (x := x5) B d_Mo_filter_28 rfl ?_
  refine Gk_iconst (v := 0) B d_Mo_filter_30 (by decide) ?_
  refine Gk_iconst (v := 5) B d_Mo_filter_31 (by decide) ?_
  obtain ⟨w32, h32, h⟩ := gk_bind h
  refine Gk_callS (As := [.int x5, .int 0, .int 5]) (rest := []) (st1 := [.int w32.1]) (k1 := 0) (n1 := 0) B gk_hG d_Mo_filter_32 (sn_Mo_outside h32) tw_954 tw_952 tw_953 tw_48 nm_Mo_outside rfl (by decide) ⟨by decide, by decide⟩ ⟨by decide, by decide⟩ rfl rfl rfl rfl ?_
  refine Gk_if_eq (tgt := 51) B d_Mo_filter_35 rfl (fun c35 => ?_) (fun c35 => ?_)
  · rw [if_pos c35] at h
    exact sn_Mo_filter_51 B hr h
  rw [if_neg c35] at h
  refine Gk_iload (x := x5) B d_Mo_filter_38 rfl ?_
  refine Gk_bipush (v := 100) B d_Mo_filter_40 (by decide) ?_
  refine Gk_sipush (v := 599) B d_Mo_filter_42 (by decide) ?_
  obtain ⟨w45, h45, h⟩ := gk_bind h
  refine Gk_callS (As := [.int x5, .int 100, .int 599]) (rest := []) (st1 := [.int w45.1]) (k1 := 0) (n1 := 0) B gk_hG d_Mo_filter_45 (sn_Mo_outside h45) tw_954 tw_952 tw_953 tw_48 nm_Mo_outside rfl (by decide) ⟨by decide, by decide⟩ ⟨by decide, by decide⟩ rfl rfl rfl rfl ?_
  refine Gk_if_ne (tgt := 64) B d_Mo_filter_48 rfl (fun c48 => ?_) (fun c48 => ?_)
  · rw [if_neg c48] at h
    exact sn_Mo_filter_64 B hr h
  rw [if_pos c48] at h
  exact sn_Mo_filter_51 B hr h
theorem sn_Mo_filter {l : Launch} {Γ : gk_G} {a0 : Option Nat} {x1 : Int32} {x2 : Int32} {x3 : Int32} {x4 : Int32} {x5 : Int32} {M : gk_M} {ρ : Int32 × gk_M} (h : fn_Mo_filter a0 x1 x2 x3 x4 x5 M = some ρ) : gk_Met l gk_Y Γ y_Mo_filter (.code y_Mo_filter c_Mo_filter 7 (some .int) :: gk_Y.2.2.2) rm_Mo_filter [va_rf a0, .int x1, .int x2, .int x3, .int x4, .int x5] M (some (.int ρ.1)) ρ.2 :=
  gk_start (by decide) (by simp [lg_sl, gk_rc, gk_ic, gk_jc]) [some (va_rf a0), some (.int x1), some (.int x2), some (.int x3), some (.int x4), some (.int x5), none] (by simp [gk_as, lv_args, gk_rc, gk_ic, gk_jc]) (fun p e s m args below meth c B hr hin => sn_Mo_filter_0 B hr h)
theorem d_SD_mapper_0 : decode c_SD_mapper 0 = .ok (.iload_n 1, 1) := by decide +kernel
theorem d_SD_mapper_1 : decode c_SD_mapper 1 = .ok (.invokestatic 108, 3) := by decide +kernel
theorem d_SD_mapper_4 : decode c_SD_mapper 4 = .ok (.ifCond .eq 18, 3) := by decide +kernel
theorem d_SD_mapper_7 : decode c_SD_mapper 7 = .ok (.iload_n 2, 1) := by decide +kernel
theorem d_SD_mapper_8 : decode c_SD_mapper 8 = .ok (.ifCond .eq 10, 3) := by decide +kernel
theorem d_SD_mapper_11 : decode c_SD_mapper 11 = .ok (.iload_n 2, 1) := by decide +kernel
theorem d_SD_mapper_12 : decode c_SD_mapper 12 = .ok (.invokestatic 139, 3) := by decide +kernel
theorem d_SD_mapper_15 : decode c_SD_mapper 15 = .ok (.ifCond .eq 7, 3) := by decide +kernel
theorem d_SD_mapper_18 : decode c_SD_mapper 18 = .ok (.iconst 1, 1) := by decide +kernel
theorem d_SD_mapper_19 : decode c_SD_mapper 19 = .ok (.goto 4, 3) := by decide +kernel
theorem d_SD_mapper_22 : decode c_SD_mapper 22 = .ok (.iconst 0, 1) := by decide +kernel
theorem d_SD_mapper_23 : decode c_SD_mapper 23 = .ok (.istore_n 3, 1) := by decide +kernel
theorem d_SD_mapper_24 : decode c_SD_mapper 24 = .ok (.iload_n 3, 1) := by decide +kernel
theorem d_SD_mapper_25 : decode c_SD_mapper 25 = .ok (.ifCond .eq 10, 3) := by decide +kernel
theorem d_SD_mapper_28 : decode c_SD_mapper 28 = .ok (.aload_n 0, 1) := by decide +kernel
theorem d_SD_mapper_29 : decode c_SD_mapper 29 = .ok (.getfield 51, 3) := by decide +kernel
theorem d_SD_mapper_32 : decode c_SD_mapper 32 = .ok (.iload_n 1, 1) := by decide +kernel
theorem d_SD_mapper_33 : decode c_SD_mapper 33 = .ok (.iload_n 2, 1) := by decide +kernel
theorem d_SD_mapper_34 : decode c_SD_mapper 34 = .ok (.iastore, 1) := by decide +kernel
theorem d_SD_mapper_35 : decode c_SD_mapper 35 = .ok (.iload_n 3, 1) := by decide +kernel
theorem d_SD_mapper_36 : decode c_SD_mapper 36 = .ok (.ireturn, 1) := by decide +kernel
set_option maxHeartbeats 4000000 in
set_option maxRecDepth 100000 in
theorem sn_SD_mapper_35 {l : Launch} {Γ : gk_G} {p : Program} {e : Env} {s : State} {m : MethodId} {args : Array Value} {below : List Frame} {meth : Method} {c : Code} (B : gk_B p s m args meth c gk_Y Γ c_SD_mapper 4 "StageDispatcher") (hr : meth.sig.returnType = (some .boolean)) {ρ : Int32 × gk_M}   {x3 : Int32} {M : gk_M} (h : fn_SD_mapper_35  x3 M = some ρ) : Gk p l e rm_SD_mapper s m args below meth c gk_Y Γ 4 (MQ below (gk_Q gk_Y Γ (some (.int ρ.1)) ρ.2) args s rm_SD_mapper.cells rm_SD_mapper.slots (fun q => Γ.2.2 ≤ q)) 0 0 M 35 [none, none, none, some (.int x3)] [] := by
  unfold fn_SD_mapper_35 at h
  refine Gk_iload_n (i := 3) (x := x3) B d_SD_mapper_35 rfl rfl ?_
  obtain ⟨z, hz, h⟩ := gk_bind h
  obtain ⟨hz1, hz2⟩ := gk_z_eq hz
  cases h
  subst hz1
  exact Gk_iret B hr d_SD_mapper_36 (gk_nz hz2) (by decide) (by decide) rfl
set_option maxHeartbeats 4000000 in
set_option maxRecDepth 100000 in
theorem sn_SD_mapper_23 {l : Launch} {Γ : gk_G} {p : Program} {e : Env} {s : State} {m : MethodId} {args : Array Value} {below : List Frame} {meth : Method} {c : Code} (B : gk_B p s m args meth c gk_Y Γ c_SD_mapper 4 "StageDispatcher") (hr : meth.sig.returnType = (some .boolean)) {ρ : Int32 × gk_M}   {a0 : Option Nat} {x1 : Int32} {x2 : Int32} {s0 : Int32} {M : gk_M} (h : fn_SD_mapper_23  a0 x1 x2 s0 M = some ρ) : Gk p l e rm_SD_mapper s m args below meth c gk_Y Γ 4 (MQ below (gk_Q gk_Y Γ (some (.int ρ.1)) ρ.2) args s rm_SD_mapper.cells rm_SD_mapper.slots (fun q => Γ.2.2 ≤ q)) 0 0 M 23 [some (va_rf a0), some (.int x1), some (.int x2), none] [.int s0] := by
  unfold fn_SD_mapper_23 at h
  refine Gk_istore_n (i := 3) (L' := [some (va_rf a0), some (.int x1), some (.int x2), some (.int s0)]) B d_SD_mapper_23 rfl (by decide) (gk_c1_i rfl) rfl ?_
  refine Gk_iload_n (i := 3) (x := s0) B d_SD_mapper_24 rfl rfl ?_
  refine Gk_if_eq (tgt := 35) B d_SD_mapper_25 rfl (fun c25 => ?_) (fun c25 => ?_)
  · rw [if_pos c25] at h
    refine Gk_weak [false, false, false, true] (L' := [none, none, none, some (.int s0)]) rfl ?_
    exact sn_SD_mapper_35 B hr h
  rw [if_neg c25] at h
  refine Gk_aload_n (i := 0) (r := a0) B d_SD_mapper_28 rfl rfl ?_
  obtain ⟨v29, h29, h⟩ := gk_bind h
  refine Gk_getR (j := 6) B d_SD_mapper_29 in_SD cl_SD (by decide) tw_284 rfl h29 ?_
  refine Gk_iload_n (i := 1) (x := x1) B d_SD_mapper_32 rfl rfl ?_
  refine Gk_iload_n (i := 2) (x := x2) B d_SD_mapper_33 rfl rfl ?_
  obtain ⟨M34, h34, h⟩ := gk_bind h
  refine Gk_iastore B d_SD_mapper_34 ty_0 h34 ?_
  refine Gk_weak [false, false, false, true] (L' := [none, none, none, some (.int s0)]) rfl ?_
  exact sn_SD_mapper_35 B hr h
set_option maxHeartbeats 4000000 in
set_option maxRecDepth 100000 in
theorem sn_SD_mapper_22 {l : Launch} {Γ : gk_G} {p : Program} {e : Env} {s : State} {m : MethodId} {args : Array Value} {below : List Frame} {meth : Method} {c : Code} (B : gk_B p s m args meth c gk_Y Γ c_SD_mapper 4 "StageDispatcher") (hr : meth.sig.returnType = (some .boolean)) {ρ : Int32 × gk_M}   {a0 : Option Nat} {x1 : Int32} {x2 : Int32} {M : gk_M} (h : fn_SD_mapper_22  a0 x1 x2 M = some ρ) : Gk p l e rm_SD_mapper s m args below meth c gk_Y Γ 4 (MQ below (gk_Q gk_Y Γ (some (.int ρ.1)) ρ.2) args s rm_SD_mapper.cells rm_SD_mapper.slots (fun q => Γ.2.2 ≤ q)) 0 0 M 22 [some (va_rf a0), some (.int x1), some (.int x2), none] [] := by
  unfold fn_SD_mapper_22 at h
  refine Gk_iconst (v := 0) B d_SD_mapper_22 (by decide) ?_
  exact sn_SD_mapper_23 B hr h
set_option maxHeartbeats 4000000 in
set_option maxRecDepth 100000 in
theorem sn_SD_mapper_18 {l : Launch} {Γ : gk_G} {p : Program} {e : Env} {s : State} {m : MethodId} {args : Array Value} {below : List Frame} {meth : Method} {c : Code} (B : gk_B p s m args meth c gk_Y Γ c_SD_mapper 4 "StageDispatcher") (hr : meth.sig.returnType = (some .boolean)) {ρ : Int32 × gk_M}   {a0 : Option Nat} {x1 : Int32} {x2 : Int32} {M : gk_M} (h : fn_SD_mapper_18  a0 x1 x2 M = some ρ) : Gk p l e rm_SD_mapper s m args below meth c gk_Y Γ 4 (MQ below (gk_Q gk_Y Γ (some (.int ρ.1)) ρ.2) args s rm_SD_mapper.cells rm_SD_mapper.slots (fun q => Γ.2.2 ≤ q)) 0 0 M 18 [some (va_rf a0), some (.int x1), some (.int x2), none] [] := by
  unfold fn_SD_mapper_18 at h
  refine Gk_iconst (v := 1) B d_SD_mapper_18 (by decide) ?_
  refine Gk_goto (tgt := 23) B d_SD_mapper_19 rfl ?_
  exact sn_SD_mapper_23 B hr h
set_option maxHeartbeats 4000000 in
set_option maxRecDepth 100000 in
theorem sn_SD_mapper_0 {l : Launch} {Γ : gk_G} {p : Program} {e : Env} {s : State} {m : MethodId} {args : Array Value} {below : List Frame} {meth : Method} {c : Code} (B : gk_B p s m args meth c gk_Y Γ c_SD_mapper 4 "StageDispatcher") (hr : meth.sig.returnType = (some .boolean)) {ρ : Int32 × gk_M}   {a0 : Option Nat} {x1 : Int32} {x2 : Int32} {M : gk_M} (h : fn_SD_mapper  a0 x1 x2 M = some ρ) : Gk p l e rm_SD_mapper s m args below meth c gk_Y Γ 4 (MQ below (gk_Q gk_Y Γ (some (.int ρ.1)) ρ.2) args s rm_SD_mapper.cells rm_SD_mapper.slots (fun q => Γ.2.2 ≤ q)) 0 0 M 0 [some (va_rf a0), some (.int x1), some (.int x2), none] [] := by
  unfold fn_SD_mapper at h
  refine Gk_iload_n (i := 1) (x := x1) B d_SD_mapper_0 rfl rfl ?_
  obtain ⟨w1, h1, h⟩ := gk_bind h
  refine Gk_callS (As := [.int x1]) (rest := []) (st1 := [.int w1.1]) (k1 := 0) (n1 := 0) B gk_hG d_SD_mapper_1 (sn_SD_isThrown h1) tw_438 tw_436 tw_437 tw_40 nm_SD_isThrown rfl (by decide) ⟨by decide, by decide⟩ ⟨by decide, by decide⟩ rfl rfl rfl rfl ?_
  refine Gk_if_eq (tgt := 22) B d_SD_mapper_4 rfl (fun c4 => ?_) (fun c4 => ?_)
  · rw [if_pos c4] at h
    exact sn_SD_mapper_22 B hr h
  rw [if_neg c4] at h
  refine Gk_iload_n (i := 2) (x := x2) B d_SD_mapper_7 rfl rfl ?_
  refine Gk_if_eq (tgt := 18) B d_SD_mapper_8 rfl (fun c8 => ?_) (fun c8 => ?_)
  · rw [if_pos c8] at h
    exact sn_SD_mapper_18 B hr h
  rw [if_neg c8] at h
  refine Gk_iload_n (i := 2) (x := x2) B d_SD_mapper_11 rfl rfl ?_
  obtain ⟨w12, h12, h⟩ := gk_bind h
  refine Gk_callS (As := [.int x2]) (rest := []) (st1 := [.int w12.1]) (k1 := 0) (n1 := 0) B gk_hG d_SD_mapper_12 (sn_SD_isStatus h12) tw_476 tw_474 tw_475 tw_40 nm_SD_isStatus rfl (by decide) ⟨by decide, by decide⟩ ⟨by decide, by decide⟩ rfl rfl rfl rfl ?_
  refine Gk_if_eq (tgt := 22) B d_SD_mapper_15 rfl (fun c15 => ?_) (fun c15 => ?_)
  · rw [if_pos c15] at h
    exact sn_SD_mapper_22 B hr h
  rw [if_neg c15] at h
  exact sn_SD_mapper_18 B hr h
theorem sn_SD_mapper {l : Launch} {Γ : gk_G} {a0 : Option Nat} {x1 : Int32} {x2 : Int32} {M : gk_M} {ρ : Int32 × gk_M} (h : fn_SD_mapper a0 x1 x2 M = some ρ) : gk_Met l gk_Y Γ y_SD_mapper (.code y_SD_mapper c_SD_mapper 4 (some .boolean) :: gk_Y.2.2.2) rm_SD_mapper [va_rf a0, .int x1, .int x2] M (some (.int ρ.1)) ρ.2 :=
  gk_start (by decide) (by simp [lg_sl, gk_rc, gk_ic, gk_jc]) [some (va_rf a0), some (.int x1), some (.int x2), none] (by simp [gk_as, lv_args, gk_rc, gk_ic, gk_jc]) (fun p e s m args below meth c B hr hin => sn_SD_mapper_0 B hr h)
